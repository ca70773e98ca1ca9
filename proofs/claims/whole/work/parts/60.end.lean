/-! of one end; the best count -/
def prc (c : Nat → Nat) (mn e : Nat) (w : Nat → Int32) (k : Nat) : Int32 := (play true true true 0 c mn (upd w (11 + 14 * e + 1) (nI k))) 4 + (play true true true 0 c mn (upd w (11 + 14 * e + 1) (nI k))) 6 + 20 * (play true true true 0 c mn (upd w (11 + 14 * e + 1) (nI k))) 8
def bstF (pr : Nat → Int32) : Nat → Nat → Int32 → Int32 → Int32
  | 0, _, b, _ => b
  | r + 1, k, b, l => if k = 1 then bstF pr r (k + 1) (nI k) (pr k) else if l ≤ pr k then bstF pr r (k + 1) b l else bstF pr r (k + 1) (nI k) (pr k)
theorem bstF_c {pr pr' : Nat → Int32} : ∀ (r k : Nat) (b l : Int32), 1 ≤ k → k + r = 10 → (∀ k, 1 ≤ k → k ≤ 9 → pr k = pr' k) → bstF pr r k b l = bstF pr' r k b l
  | 0, _, _, _, _, _, _ => rfl
  | r + 1, k, b, l, h1, h, hp => by
    rw [bstF, bstF, hp k h1 (by omega), bstF_c r (k + 1) _ _ (by omega) (by omega) hp, bstF_c r (k + 1) _ _ (by omega) (by omega) hp]
theorem va_up3 {α : Type} (ar : Nat → α) {k j : Nat} (X w : α) (h : k ≠ j) : va_up (va_up (va_up ar k X) j w) k (ar k) = va_up ar j w := by
  funext p
  by_cases q : p = k
  · subst q
    rw [va_up_self, va_up_ne _ _ h]
  · rw [va_up_ne _ _ q]
    by_cases q2 : p = j
    · subst q2
      rw [va_up_self, va_up_self]
    · rw [va_up_ne _ _ q2, va_up_ne _ _ q2, va_up_ne _ _ q]
section EN
variable {N : Nat → Nat} {T : Nat → Nat → Int32} {c : Nat → Nat} {G : Nat → Nat → Int32} {sd : Int64}
theorem c_bestL {B e : Nat} (he : e = 0 ∨ e = 1) (hW : WS B N T c G) : ∀ (r k n : Nat) (b l : Int32) (F : Hp), k + r = 10 → 1 ≤ k → r < n → CS F N T c G sd → ∃ F', g_X7_bestCount_b7 n F 0 (nI e) b l (nI k) = some (bstF (prc c (N 1) e (G 0)) r k b l, F') ∧ CS F' N T c G sd ∧ ∀ j, 107 ≤ j → F' j = F j := by
  intro r
  induction r with
  | zero =>
    intro k n b l F hk h1 hn hC
    obtain ⟨n, rfl⟩ : ∃ n', n = n' + 1 := ⟨n - 1, by omega⟩
    refine ⟨F, ?_, hC, fun _ _ => rfl⟩
    rw [g_X7_bestCount_b7, if_pos (show (9 : Int32) < nI k from nI_lt (a := 9) (by omega) (by omega)), bstF]
  | succ r ih =>
    intro k n b l F hk h1 hn hC
    obtain ⟨n, rfl⟩ : ∃ n', n = n' + 1 := ⟨n - 1, by omega⟩
    obtain ⟨w, g1, g2⟩ := c_tryStart hW hC
    have hEv := hW.2.1
    have hw0 := hW.2.2.2.2.2.2.1.1
    have hS := hC.2.2.1
    have hw1 := Wf_upF (i := 11 + 14 * e + 1) (v := k) (by omega) h1 (by omega) hw0
    have hE1 := Eqv_upd (nI k) (i := 11 + 14 * e + 1) (by omega) g2
    obtain ⟨p1, p2⟩ := c_playT (mg := 1) (gone := 0) (C := 0) (Or.inr rfl) hC (by omega) (Wf_eqv hE1 hw1)
    rw [show (decide (¬ (1 : Int32) = 0)) = true from rfl] at p1 p2
    have hEp := Eqv_play (mg := true) (u0 := true) (u1 := true) (gone := 0) hEv (C := 0) (by omega) hw1 hE1
    have cs : ∀ v, CS (dz F 15 1 v) N T c G sd := fun v => CS_trial (Or.inr rfl) hC
    have hpr : (play true true true 0 c (N 1) (upd w (11 + 14 * e + 1) (nI k))) 4 + (play true true true 0 c (N 1) (upd w (11 + 14 * e + 1) (nI k))) 6 + 20 * (play true true true 0 c (N 1) (upd w (11 + 14 * e + 1) (nI k))) 8 = prc c (N 1) e (G 0) k := by
      unfold prc
      rw [← hEp.1 4 (by omega), ← hEp.1 6 (by omega), ← hEp.1 8 (by omega)]
    rw [g_X7_bestCount_b7, if_neg (show ¬ (9 : Int32) < nI k from nI_nlt (a := 9) (by omega) (by omega)), CS_r3 hC, Option.bind_some, CS_r1 hC, Option.bind_some, SC_g0 hS, Option.bind_some, ckO_t (CS_i15 hC), g1, Option.bind_some, CS_r3 (cs _), Option.bind_some, ckO_t (dz_isO _ _ _ _), c_side he, bnd2_s, dz_sp1 _ _ _ _ he, Option.bind_some, CS_r1 (cs _), Option.bind_some, CS_r3 (cs _), Option.bind_some, ckO_t (SC_o (cs _).2.2.1), p1, Option.bind_some, CS_r3 (cs _), Option.bind_some, ckO_t (dz_isO _ _ _ _), p2, Option.bind_some, CS_r3 (cs _), Option.bind_some, ckO_t (dz_isO _ _ _ _), c_price, bnd2_s, hpr]
    simp only [g_X7_bestCount_b81, g_X7_bestCount_b87, nI_1]
    rw [bstF]
    have fin : ∀ b' l', ∃ F', g_X7_bestCount_b7 n (dz F 15 1 (play true true true 0 c (N 1) (upd w (11 + 14 * e + 1) (nI k)))) 0 (nI e) b' l' (nI (k + 1)) = some (bstF (prc c (N 1) e (G 0)) r (k + 1) b' l', F') ∧ CS F' N T c G sd ∧ ∀ j, 107 ≤ j → F' j = F j := by
      intro b' l'
      obtain ⟨F', i1, i2, i3⟩ := ih (k + 1) n b' l' _ (by omega) (by omega) (by omega) (cs (play true true true 0 c (N 1) (upd w (11 + 14 * e + 1) (nI k))))
      exact ⟨F', i1, i2, fun j hj => by rw [i3 j hj, dz_n (by omega)]⟩
    by_cases q : k = 1
    · rw [if_pos q, if_pos (show nI k = 1 from (nI_eq (b := 1) (by omega) (by omega)).mpr q)]
      exact fin _ _
    · rw [if_neg q, if_neg (show ¬ nI k = 1 from fun z => q ((nI_eq (b := 1) (by omega) (by omega)).mp z))]
      by_cases q2 : l ≤ prc c (N 1) e (G 0) k
      · rw [if_pos q2, if_pos q2]
        exact fin _ _
      · rw [if_neg q2, if_neg q2]
        exact fin _ _
theorem m_bestL {F : Hp} {s : Nat → Int32} {A2 A3 : Nat → Int32} {mn e : Nat} (he : e = 0 ∨ e = 1) (hs : s 21 = 7) (hm : s 10 = nI mn) (hc : EvOk c mn) (hev : ∀ k, k < mn → A3 k = nI (c k)) (hw : Wf 0 A2) : ∀ (r k n : Nat) (b l : Int32) (ar : Nat → Nat → Int32), ar 112 = A2 → ar 113 = A3 → k + r = 10 → 1 ≤ k → r < n → ∃ w', g_X8_best_b7 n (mh F s sd ar) 107 (nI e) b l (nI k) = some (bstF (prc c mn e A2) r k b l, mh F s sd (va_up ar 114 w')) := by
  intro r
  induction r with
  | zero =>
    intro k n b l ar h2 h3 hk h1 hn
    obtain ⟨n, rfl⟩ : ∃ n', n = n' + 1 := ⟨n - 1, by omega⟩
    refine ⟨ar 114, ?_⟩
    rw [g_X8_best_b7, if_pos (show (10 : Int32) ≤ nI k from nI_le (a := 10) (by omega) (by omega)), bstF, va_up_eta rfl]
  | succ r ih =>
    intro k n b l ar h2 h3 hk h1 hn
    obtain ⟨n, rfl⟩ : ∃ n', n = n' + 1 := ⟨n - 1, by omega⟩
    have hw1 := Wf_upF (i := 11 + 14 * e + 1) (v := k) (by omega) h1 (by omega) hw
    obtain ⟨w, q1, q2⟩ := m_price (F := F) (sd := sd) (s := s) (ar := va_up ar 112 (upd (ar 112) (11 + 14 * e + 1) (nI k))) (c := c) (mn := mn) (C := 0) hs hm hc (fun k hk => by rw [va_up_ne _ _ (by omega), h3]; exact hev k hk) (by omega) (by rw [va_up_self, h2]; exact hw1)
    rw [va_up_self, h2] at q2
    have hpr : w 4 + w 6 + 20 * w 8 = prc c mn e A2 k := by
      unfold prc
      rw [q2.1 4 (by omega), q2.1 6 (by omega), q2.1 8 (by omega)]
    have e1 : upd (upd (ar 112) (11 + 14 * e + 1) (nI k)) (11 + 14 * e + 1) (ar 112 (11 + 14 * e + 1)) = ar 112 := by rw [upd_upd]; exact upd_same rfl
    rw [g_X8_best_b7, if_neg (show ¬ (10 : Int32) ≤ nI k from nI_ge (b := 10) (by omega) (by omega)), mh_r8, Option.bind_some, m_at, bnd2_s, nI_1, mh_ld _ _ _ _ (p := 112) (kd := 0) (n := 39) (by omega) rfl rfl (by omega) (by omega), Option.bind_some, mh_r8, Option.bind_some, m_at, bnd2_s, nI_1, mh_st _ _ _ _ (p := 112) (kd := 0) (n := 39) (by omega) rfl rfl (by omega) (by omega), Option.bind_some, ckO_t (mh_isO _ _ _ _), q1, bnd2_s, mh_r8, Option.bind_some, m_at, bnd2_s, nI_1, mh_st _ _ _ _ (p := 112) (kd := 0) (n := 39) (by omega) rfl rfl (by omega) (by omega), Option.bind_some, va_up_ne _ _ (show 112 ≠ 114 by omega), va_up_self, e1, va_up3 _ _ _ (by omega), hpr]
    simp only [g_X8_best_b71, g_X8_best_b77, g_X8_best_b90, g_X8_best_b96, nI_1]
    rw [bstF]
    have fin : ∀ b' l', ∃ w', g_X8_best_b7 n (mh F s sd (va_up ar 114 w)) 107 (nI e) b' l' (nI (k + 1)) = some (bstF (prc c mn e A2) r (k + 1) b' l', mh F s sd (va_up ar 114 w')) := by
      intro b' l'
      obtain ⟨w', i1⟩ := ih (k + 1) n b' l' (va_up ar 114 w) (by rw [va_up_ne _ _ (by omega)]; exact h2) (by rw [va_up_ne _ _ (by omega)]; exact h3) (by omega) (by omega) (by omega)
      rw [va_up2] at i1
      exact ⟨w', i1⟩
    by_cases q : k = 1
    · have q' : nI k = 1 := (nI_eq (b := 1) (by omega) (by omega)).mpr q
      rw [if_pos q, if_pos q', if_pos q']
      exact fin _ _
    · have q' : ¬ nI k = 1 := fun z => q ((nI_eq (b := 1) (by omega) (by omega)).mp z)
      rw [if_neg q, if_neg q']
      by_cases q2 : l ≤ prc c mn e A2 k
      · rw [if_pos q2, if_pos q2, if_neg q', if_pos q2]
        exact fin _ _
      · rw [if_neg q2, if_neg q2, if_neg q', if_neg q2]
        exact fin _ _
theorem m_due {F : Hp} {s : Nat → Int32} {ar : Nat → Nat → Int32} {p e h : Nat} (hp : p = 109 ∨ p = 111 ∨ p = 112 ∨ p = 114) (hs : s 21 = 7) (he : e = 0 ∨ e = 1) (hh : ar p (15 + 14 * e) = nI h) (h9 : h ≤ 9) : g_X8_isDue (mh F s sd ar) 107 p (nI e) = some (if due true e (ar p) = true then 1 else 0, mh F s sd ar) := by
  obtain ⟨h1, h7, hn, -⟩ := pq39 hp
  have g := m_isDue (F := mh F s sd ar) (q := p) (m := 107) (w := ar p) (by omega) (mh_g21 F s sd ar) he hh h9
  rw [← mh_pg0 F s sd ar h1 h7 hn, hs, show bit 7 (nI e) = true by rcases he with rfl | rfl <;> rfl] at g
  exact g
end EN
theorem s_end {B : Nat} (hB : B + 1000 < 100000000) (x y : Int32) : Stp1 B (fun F => g_X7_end F 0 x y) (fun F => g_X8_end F 107 x y) := by
  refine stp_of (fun F N T c G sd hW hC hM => ?_)
  have hw := hW.2.2.2.2.2.2.2.1
  by_cases hx : x = 0 ∨ x = 1
  · obtain ⟨e, he, rfl⟩ := end_cases hx
    obtain ⟨h, h9, hh, hl⟩ := hw.2.2.2.2.2.2 e he
    obtain ⟨wn, hd, hE⟩ := hC.2.2.2.2.1
    have s1 := c_side (F := F) (a := 10) (mg := 1) (w := wn) he
    have s3 := dz_isS F 10 1 wn he
    rw [hd] at s1 s3
    by_cases hy : 0 ≤ y ∧ y ≤ 4
    · obtain ⟨j, hj, rfl⟩ := nI_cases (n := 4) rfl hy
      refine ⟨G 1 (11 + 14 * e + j), N, T, c, G, sd, WS_mono (Nat.le_add_right B 20) hW, ⟨F, ?_, hC, fun _ _ => rfl⟩, m_keep (fun F1 s ar hB => ⟨upd s 0 0, ar, ?_, MB_s 0 (by omega) hB⟩)⟩
      · have d0 := dz_sg0 F 10 1 wn he
        have d1 := dz_sg1 F 10 1 wn he
        have d2 := dz_sg2 F 10 1 wn he
        have d3 := dz_sg3 F 10 1 wn he
        have d4 := dz_sg4 F 10 1 wn he
        rw [hd] at d0 d1 d2 d3 d4
        show g_X7_end F 0 (nI e) (nI j) = _
        unfold g_X7_end
        rw [c_isEnd, bnd2_s, if_pos hx, if_neg (by decide), CS_r2 hC, Option.bind_some, ckO_t (CS_i10 hC), s1, bnd2_s, d0, d1, d2, d3, d4, hE.1 (11 + 14 * e + j) (by omega)]
        rcases (show j = 0 ∨ j = 1 ∨ j = 2 ∨ j = 3 ∨ j = 4 by omega) with rfl | rfl | rfl | rfl | rfl <;> rfl
      · obtain ⟨-, -, e1, -⟩ := hB
        show g_X8_end (mh F1 s sd ar) 107 (nI e) (nI j) = _
        unfold g_X8_end
        rw [mh_p0, Option.bind_some, m_noEnd, bnd2_s, if_pos hx, if_pos rfl, m_in _ _ 0 4 0 4 (by decide) (by decide), bnd2_s, if_pos hy, if_neg (by decide), mh_r7, Option.bind_some, m_at, bnd2_s, nI_add, mh_ld _ _ _ _ (p := 111) (kd := 0) (n := 39) (by omega) rfl rfl (by omega) (by omega), Option.bind_some, e1.1 (11 + 14 * e + j) (by omega)]
    · have ny : ∀ i : Nat, i ≤ 4 → ¬ y = nI i := by
        intro i hi q
        apply hy
        rw [q]
        exact ⟨nI_pos' (by omega), nI_le (b := 4) hi (by omega)⟩
      have skip : g_X7_end F 0 (nI e) y = (if y = 5 then ((some 10 : Option Nat).bind fun q18 => ((gI F q18 1 8).bind fun x19 => (ckO F (10 + 1 + 2 * e) 3 (bnd2 (g_X3_isDue F (10 + 1 + 2 * e) x19) fun x21 F20 => (if x21 = 0 then some (0, F20) else some (1, F20)))))) else (if y = 6 then (ckO F 0 7 (bnd2 (g_X7_bestCount F 0 (nI e)) fun x25 F24 => some (x25, F24))) else some ((-2), F))) := by
        unfold g_X7_end
        rw [c_isEnd, bnd2_s, if_pos hx, if_neg (by decide), CS_r2 hC, Option.bind_some, ckO_t (CS_i10 hC), s1, bnd2_s, if_neg (show ¬ y = 0 from ny 0 (by omega)), if_neg (show ¬ y = 1 from ny 1 (by omega)), if_neg (show ¬ y = 2 from ny 2 (by omega)), if_neg (show ¬ y = 3 from ny 3 (by omega)), if_neg (show ¬ y = 4 from ny 4 (by omega)), CS_r2 hC]
      have skm : ∀ (F1 : Hp) (s : Nat → Int32) (ar : Nat → Nat → Int32), g_X8_end (mh F1 s sd ar) 107 (nI e) y = (if y = 5 then ((gR (mh F1 (upd s 0 0) sd ar) 107 8 7).bind fun q12 => (ckO (mh F1 (upd s 0 0) sd ar) 107 8 (bnd2 (g_X8_isDue (mh F1 (upd s 0 0) sd ar) 107 q12 (nI e)) fun x14 F13 => (if x14 = 0 then some (0, F13) else some (1, F13))))) else (if y = 6 then (ckO (mh F1 (upd s 0 0) sd ar) 107 8 (bnd2 (g_X8_best (mh F1 (upd s 0 0) sd ar) 107 (nI e)) fun x11 F10 => some (x11, F10))) else some ((-2), mh F1 (upd s 0 0) sd ar))) := by
        intro F1 s ar
        unfold g_X8_end
        rw [mh_p0, Option.bind_some, m_noEnd, bnd2_s, if_pos hx, if_pos rfl, m_in _ _ 0 4 0 4 (by decide) (by decide), bnd2_s, if_neg hy, if_pos rfl]
      by_cases h5 : y = 5
      · refine ⟨if due true e (G 1) = true then 1 else 0, N, T, c, G, sd, WS_mono (Nat.le_add_right B 20) hW, ⟨F, ?_, hC, fun _ _ => rfl⟩, m_keep (fun F1 s ar hB => ⟨upd s 0 0, ar, ?_, MB_s 0 (by omega) hB⟩)⟩
        · have hwn := Wf_eqv hE hw
          obtain ⟨h', b1, b2, b3⟩ := hwn.2.2.2.2.2.2 e he
          have g := c_isDue (F := F) (a := 10) (mg := 1) (w := wn) he b2 b1 (fun k hk => by
            obtain ⟨v, c1, c2⟩ := b3 k hk
            exact ⟨v, by omega, c2⟩)
          have d8 := dz_g8 F 10 1 wn
          rw [hd] at g d8
          show g_X7_end F 0 (nI e) y = _
          rw [skip, if_pos h5, Option.bind_some, d8, Option.bind_some, ckO_t s3, g, bnd2_s, Eqv_due true he hE]
          split <;> rfl
        · obtain ⟨⟨a1, a2, a3, a4, a5⟩, -, e1, -⟩ := hB
          show g_X8_end (mh F1 s sd ar) 107 (nI e) y = _
          rw [skm, if_pos h5, mh_r7, Option.bind_some, ckO_t (mh_isO _ _ _ _), m_due (by omega) (by rw [upd_n _ _ (by omega)]; exact a5) he (h := h) (by rw [← e1.1 _ (by omega)]; exact hh) h9, bnd2_s, Eqv_due true he e1]
          split <;> rfl
      · by_cases h6 : y = 6
        · obtain ⟨F', g1, g2, g3⟩ := c_bestL (sd := sd) he hW 9 1 gF 1 0 F (by omega) (by omega) (by unfold gF; omega) hC
          refine ⟨bstF (prc c (N 1) e (G 0)) 9 1 1 0, N, T, c, G, sd, WS_mono (Nat.le_add_right B 20) hW, ⟨F', ?_, g2, g3⟩, m_keep (fun F1 s ar hB => ?_)⟩
          · show g_X7_end F 0 (nI e) y = _
            rw [skip, if_neg h5, if_pos h6, ckO_t (CS_o hC), show g_X7_bestCount F 0 (nI e) = _ from g1, bnd2_s]
          · obtain ⟨⟨a1, a2, a3, a4, a5⟩, -, e1, e0, ev, -⟩ := id hB
            have hw0 := hW.2.2.2.2.2.2.1.1
            obtain ⟨w', q⟩ := m_bestL (F := F1) (sd := sd) (s := upd s 0 0) (A2 := ar 112) (A3 := ar 113) (c := c) (mn := N 1) he (by rw [upd_n _ _ (by omega)]; exact a5) (by rw [upd_n _ _ (by omega)]; exact a2) hW.2.1 ev (Wf_eqv e0 hw0) 9 1 gF 1 0 ar rfl rfl (by omega) (by omega) (by unfold gF; omega)
            refine ⟨upd s 0 0, va_up ar 114 w', ?_, MB_a _ (by omega) (MB_s 0 (by omega) hB)⟩
            have hcong : bstF (prc c (N 1) e (ar 112)) 9 1 1 0 = bstF (prc c (N 1) e (G 0)) 9 1 1 0 := by
              refine bstF_c 9 1 1 0 (by omega) (by omega) (fun k k1 k2 => ?_)
              have hEp := Eqv_play (mg := true) (u0 := true) (u1 := true) (gone := 0) hW.2.1 (C := 0) (by omega) (Wf_upF (i := 11 + 14 * e + 1) (v := k) (by omega) k1 k2 hw0) (Eqv_upd (nI k) (i := 11 + 14 * e + 1) (by omega) e0)
              unfold prc
              rw [hEp.1 4 (by omega), hEp.1 6 (by omega), hEp.1 8 (by omega)]
            rw [hcong] at q
            show g_X8_end (mh F1 s sd ar) 107 (nI e) y = _
            rw [skm, if_neg h5, if_pos h6, ckO_t (mh_isO _ _ _ _), show g_X8_best (mh F1 (upd s 0 0) sd ar) 107 (nI e) = _ from q, bnd2_s]
        · refine ⟨-2, N, T, c, G, sd, WS_mono (Nat.le_add_right B 20) hW, ⟨F, ?_, hC, fun _ _ => rfl⟩, m_keep (fun F1 s ar hB => ⟨upd s 0 0, ar, ?_, MB_s 0 (by omega) hB⟩)⟩
          · show g_X7_end F 0 (nI e) y = _
            rw [skip, if_neg h5, if_neg h6]
          · show g_X8_end (mh F1 s sd ar) 107 (nI e) y = _
            rw [skm, if_neg h5, if_neg h6]
  · refine ⟨-1, N, T, c, G, sd, WS_mono (Nat.le_add_right B 20) hW, ⟨F, ?_, hC, fun _ _ => rfl⟩, m_keep (fun F1 s ar hB => ⟨upd s 0 0, ar, ?_, MB_s 0 (by omega) hB⟩)⟩
    · show g_X7_end F 0 x y = _
      unfold g_X7_end
      rw [c_isEnd, bnd2_s, if_neg hx, if_pos rfl]
    · show g_X8_end (mh F1 s sd ar) 107 x y = _
      unfold g_X8_end
      rw [mh_p0, Option.bind_some, m_noEnd, bnd2_s, if_neg hx, if_neg (by decide)]
