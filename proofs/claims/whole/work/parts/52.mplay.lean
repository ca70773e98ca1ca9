/-! the reference's plays -/
section MP
variable {F : Hp} {sd : Int64} {c : Nat → Nat} {mn : Nat}
theorem mrest {s : Nat → Int32} {ar : Nat → Nat → Int32} (mg : Bool) : (if mg = true then g_X8_isQuiet (mh F s sd ar) 114 else g_X8_isEmpty (mh F s sd ar) 114) = some (if rest mg (ar 114) = true then 1 else 0, mh F s sd ar) := by
  cases mg with
  | true => rw [if_pos rfl]; exact m_isQuiet (by omega)
  | false => rw [if_neg (by decide)]; exact m_isEmp (by omega)
theorem m_goS {s : Nat → Int32} {sv : Int32} (hs : s 21 = sv) : ∀ (r k fu C : Nat) (ar : Nat → Nat → Int32), k + r = 99 → r < fu → C + r < 100000000 → Wf C (ar 114) → g_X8_goOver_b139 fu (mh F s sd ar) 107 sv (if rest (bit sv 2) (ar 114) = true then 1 else 0) (nI k) = some (mh F (upd s 21 7) sd (va_up ar 114 (stl (bit sv 2) (bit sv 0) (bit sv 1) r (ar 114)))) := by
  have fin : ∀ ar : Nat → Nat → Int32, g_X8_goOver_b192 (mh F s sd ar) 107 = some (mh F (upd s 21 7) sd ar) := by
    intro ar
    unfold g_X8_goOver_b192
    rw [mh_p21, Option.bind_some]
  intro r
  induction r with
  | zero =>
    intro k fu C ar hk hfu hC hw
    obtain ⟨fu, rfl⟩ : ∃ n', fu = n' + 1 := ⟨fu - 1, by omega⟩
    rw [g_X8_goOver_b139, if_pos (show (99 : Int32) ≤ nI k from nI_le (a := 99) (by omega) (by omega)), fin, stl, va_up_eta rfl]
  | succ r ih =>
    intro k fu C ar hk hfu hC hw
    obtain ⟨fu, rfl⟩ : ∃ n', fu = n' + 1 := ⟨fu - 1, by omega⟩
    have hw2 := Wf_tk (bit sv 2) (bit sv 0) (bit sv 1) (by omega) hw
    have hi := ih (k + 1) fu (C + 1) (va_up ar 114 (tk (bit sv 2) (bit sv 0) (bit sv 1) (ar 114))) (by omega) (by omega) (by omega) (by rw [va_up_self]; exact hw2)
    rw [va_up_self, va_up2] at hi
    rw [g_X8_goOver_b139, if_neg (show ¬ (99 : Int32) ≤ nI k from nI_ge (b := 99) (by omega) (by omega)), fin, mh_r11, Option.bind_some, ckO_t (mh_isO _ _ _ _), mt (by omega) hw, Option.bind_some, m_has, bnd2_s, hs, mh_r11, Option.bind_some, Option.bind_some, m_isQuiet (by omega), m_isEmp (by omega), bnd2_s, bnd2_s, va_up_self]
    simp only [g_X8_goOver_b184]
    rw [nI_1, stl]
    cases hr : rest (bit sv 2) (ar 114) with
    | true =>
      simp only [if_true, va_up_eta rfl]
      rfl
    | false =>
      simp only [Bool.false_eq_true, if_false, if_true]
      cases hb : bit sv 2 with
      | true =>
        rw [hb] at hi
        simp only [if_true]
        exact hi
      | false =>
        rw [hb] at hi
        simp only [Bool.false_eq_true, if_false, if_true]
        exact hi
theorem m_goL {s : Nat → Int32} {sv gone : Int32} (hs : s 21 = sv) (hm : s 10 = nI mn) (hc : EvOk c mn) : ∀ (r k n fu C : Nat) (ar : Nat → Nat → Int32), (∀ k, k < mn → ar 113 k = nI (c k)) → k + r = mn → n ≤ k → r < fu → C + 9 * r + 99 < 100000000 → Wf C (ar 114) → g_X8_goOver_b21 fu (mh F s sd ar) 107 sv gone (nI n) (nI k) = some (mh F (upd s 21 7) sd (va_up ar 114 (stl (bit sv 2) (bit sv 0) (bit sv 1) 99 (runE (bit sv 2) (bit sv 0) (bit sv 1) gone c r k n (ar 114))))) := by
  have hm71 := hc.1
  intro r
  induction r with
  | zero =>
    intro k n fu C ar hev hk hn hfu hC hw
    obtain ⟨fu, rfl⟩ : ∃ n', fu = n' + 1 := ⟨fu - 1, by omega⟩
    have g := m_goS (F := F) (sd := sd) hs 99 0 gF C ar (by omega) (by unfold gF; omega) (by omega) hw
    rw [g_X8_goOver_b21, mh_g10, Option.bind_some, hm, if_pos (nI_le (by omega) (by omega)), m_has, bnd2_s, mh_r11, Option.bind_some, Option.bind_some, m_isQuiet (by omega), m_isEmp (by omega), bnd2_s, bnd2_s, runE]
    simp only [g_X8_goOver_b134]
    cases hb : bit sv 2 with
    | true => rw [hb] at g; rw [if_neg (by decide)]; exact g
    | false => rw [hb] at g; rw [if_pos (by decide)]; exact g
  | succ r ih =>
    intro k n fu C ar hev hk hn hfu hC hw
    obtain ⟨fu, rfl⟩ : ∃ n', fu = n' + 1 := ⟨fu - 1, by omega⟩
    have hk2 := hc.2 k (by omega)
    have ld : aI (mh F s sd ar) 113 0 (nI k) = some (nI (c k)) := by
      rw [mh_ld F s sd ar (p := 113) (kd := 0) (by omega) rfl (show mlen 113 = 80 from rfl) (by omega) (by omega), hev k (by omega)]
    have yes : ∀ d : Nat, (d = if c k < 10 then 0 else 1) → g_X8_goOver_b61 (g_X8_goOver_b21 fu) (mh F s sd ar) 107 sv gone (nI n) (nI k) 0 = some (mh F (upd s 21 7) sd (va_up ar 114 (stl (bit sv 2) (bit sv 0) (bit sv 1) 99 (runE (bit sv 2) (bit sv 0) (bit sv 1) gone c r (k + 1) (n + d) (doEv (bit sv 2) (bit sv 0) (bit sv 1) (c k) (ar 114)))))) := by
      intro d hd
      have hw2 : Wf (C + 9) (doEv (bit sv 2) (bit sv 0) (bit sv 1) (c k) (ar 114)) := by
        unfold doEv
        by_cases ht : c k < 10
        · rw [if_pos ht]; exact Wf_mono (by omega) (Wf_tkN (n := c k) (by omega) hw)
        · rw [if_neg ht]; exact Wf_mono (by omega) (Wf_bring (by omega) (by omega) hw)
      have hi := ih (k + 1) (n + d) fu (C + 9) (va_up ar 114 (doEv (bit sv 2) (bit sv 0) (bit sv 1) (c k) (ar 114))) (fun k hk => by rw [va_up_ne _ _ (by omega)]; exact hev k hk) (by omega) (by rw [hd]; split <;> omega) (by omega) (by omega) (by rw [va_up_self]; exact hw2)
      rw [va_up_self, va_up2] at hi
      simp only [g_X8_goOver_b61, g_X8_goOver_b81, g_X8_goOver_b103]
      rw [mh_r9, Option.bind_some, ld, Option.bind_some]
      by_cases ht : c k < 10
      · rw [if_pos ht] at hd
        subst hd
        rw [if_pos (show nI (c k) ≤ 9 from nI_le (b := 9) (by omega) (by omega)), if_pos trivial, mh_r11, Option.bind_some, Option.bind_some, ld, Option.bind_some, ckO_t (mh_isO _ _ _ _), m_doEvent (by omega) hk2.1 hk2.2 (by omega) hw, Option.bind_some, hs, nI_1, show nI n + 0 = nI (n + 0) from nI_add n 0]
        exact hi
      · rw [if_neg ht] at hd
        subst hd
        rw [if_neg (show ¬ nI (c k) ≤ 9 from nI_ge (a := 9) (by omega) (by omega)), if_pos trivial, mh_r11, Option.bind_some, Option.bind_some, ld, Option.bind_some, ckO_t (mh_isO _ _ _ _), m_doEvent (by omega) hk2.1 hk2.2 (by omega) hw, Option.bind_some, hs, nI_1, nI_1]
        exact hi
    have no : ¬ c k < 10 → g_X8_goOver_b61 (g_X8_goOver_b21 fu) (mh F s sd ar) 107 sv gone (nI n) (nI k) 1 = some (mh F (upd s 21 7) sd (va_up ar 114 (stl (bit sv 2) (bit sv 0) (bit sv 1) 99 (runE (bit sv 2) (bit sv 0) (bit sv 1) gone c r (k + 1) (n + 1) (ar 114))))) := by
      intro ht
      have hi := ih (k + 1) (n + 1) fu C ar hev (by omega) (by omega) (by omega) (by omega) hw
      simp only [g_X8_goOver_b61, g_X8_goOver_b81, g_X8_goOver_b103]
      rw [mh_r9, Option.bind_some, ld, Option.bind_some, if_neg (show ¬ nI (c k) ≤ 9 from nI_ge (a := 9) (by omega) (by omega)), if_neg (by decide), nI_1, nI_1]
      exact hi
    rw [g_X8_goOver_b21, mh_g10, Option.bind_some, hm, if_neg (nI_ge (by omega) (by omega)), mh_r9, Option.bind_some, ld, Option.bind_some, m_has, bnd2_s, runE]
    simp only [g_X8_goOver_b60]
    by_cases ht : c k < 10
    · rw [if_pos (show nI (c k) ≤ 9 from nI_le (b := 9) (by omega) (by omega)), if_pos ht, yes 0 (by rw [if_pos ht])]
      unfold doEv
      rw [if_pos ht]
      rfl
    · rw [if_neg (show ¬ nI (c k) ≤ 9 from nI_ge (a := 9) (by omega) (by omega)), if_neg ht, yes 1 (by rw [if_neg ht]), no ht]
      unfold doEv
      rw [if_neg ht]
      by_cases h6 : n < 6
      · rw [if_neg (show ¬ (6 : Int32) ≤ nI n from nI_ge (b := 6) h6 (by omega))]
        cases hb : bit gone (nI n) with
        | true => rw [if_neg (by decide), if_pos ⟨h6, rfl⟩]
        | false => rw [if_pos (by decide), if_neg (fun q => by cases q.2)]
      · rw [if_pos (show (6 : Int32) ≤ nI n from nI_le (a := 6) (by omega) (by omega)), if_neg (fun q => h6 q.1)]
/-- a play, from a page -/
def play (mg u0 u1 : Bool) (gone : Int32) (c : Nat → Nat) (mn : Nat) (w : Nat → Int32) : Nat → Int32 := stl mg u0 u1 99 (runE mg u0 u1 gone c mn 0 0 w)
theorem Wf_play {mg u0 u1 : Bool} {gone : Int32} {C : Nat} {w : Nat → Int32} (hc : EvOk c mn) (hC : C + 1000 < 100000000) (hw : Wf C w) : Wf (C + 9 * mn + 99) (play mg u0 u1 gone c mn w) := by
  have := hc.1
  exact Wf_stl (by omega) (Wf_runE hc mn 0 0 C w (by omega) (by omega) hw)
theorem Eqv_play {mg u0 u1 : Bool} {gone : Int32} {C : Nat} {w w' : Nat → Int32} (hc : EvOk c mn) (hC : C + 1000 < 100000000) (hw : Wf C w) (h : Eqv w w') : Eqv (play mg u0 u1 gone c mn w) (play mg u0 u1 gone c mn w') := by
  have := hc.1
  exact Eqv_stl (C := C + 9 * mn) (by omega) (Wf_runE hc mn 0 0 C w (by omega) (by omega) hw) (Eqv_runE hc mn 0 0 C w w' (by omega) (by omega) hw h)
theorem md_play {mg u0 u1 : Bool} {gone : Int32} {C : Nat} {w : Nat → Int32} (hc : EvOk c mn) (hC : C + 1000 < 100000000) (hw : Wf C w) : play mg true true gone c mn (md u0 u1 w) = md u0 u1 (play mg u0 u1 gone c mn w) := by
  have := hc.1
  unfold play
  rw [md_runE hc mn 0 0 C w (by omega) (by omega) hw, md_stl (C := C + 9 * mn) (by omega) (Wf_runE hc mn 0 0 C w (by omega) (by omega) hw)]
theorem m_goOver {s : Nat → Int32} {ar : Nat → Nat → Int32} {gone : Int32} {C : Nat} (sv : Int32) (hm : s 10 = nI mn) (hc : EvOk c mn) (hev : ∀ k, k < mn → ar 113 k = nI (c k)) (hC : C + 1000 < 100000000) (hw : Wf C (ar 112)) : ∃ w, g_X8_goOver (mh F s sd ar) 107 sv gone = some (mh F (upd s 21 7) sd (va_up ar 114 w)) ∧ Eqv (play (bit sv 2) (bit sv 0) (bit sv 1) gone c mn (ar 112)) w := by
  have h71 := hc.1
  have hE := Eqv_cp (ar 114) (Wf_Lw hw)
  have g := m_goL (F := F) (sd := sd) (s := upd s 21 sv) (gone := gone) (upd_s s 21 sv) (by rw [upd_n _ _ (by omega)]; exact hm) hc mn 0 0 gF C (va_up ar 114 (cp (ar 112) (ar 114))) (fun k hk => by rw [va_up_ne _ _ (by omega)]; exact hev k hk) (by omega) (by omega) (by unfold gF; omega) (by omega) (by rw [va_up_self]; exact Wf_eqv hE hw)
  rw [va_up_self, va_up2, upd_upd] at g
  refine ⟨_, ?_, Eqv_play hc hC hw hE⟩
  unfold g_X8_goOver
  rw [mh_p21, Option.bind_some, mh_r8, Option.bind_some, mh_r11, Option.bind_some, m_lay (by omega) (by omega) (by omega), Option.bind_some]
  exact g
theorem m_ltrL {s : Nat → Int32} {ar : Nat → Nat → Int32} (hm : s 10 = nI mn) (hc : EvOk c mn) (hev : ∀ k, k < mn → ar 113 k = nI (c k)) : ∀ (r k fu : Nat), k + r = mn → r < fu → g_X8_letters_b4 fu (mh F s sd ar) 107 (nI (ltrs c k)) (nI k) = some (nI (ltrs c mn), mh F s sd ar) := by
  have h71 := hc.1
  intro r
  induction r with
  | zero =>
    intro k fu hk hfu
    obtain ⟨fu, rfl⟩ : ∃ n', fu = n' + 1 := ⟨fu - 1, by omega⟩
    rw [g_X8_letters_b4, mh_g10, Option.bind_some, hm, if_pos (nI_le (by omega) (by omega)), show k = mn by omega]
  | succ r ih =>
    intro k fu hk hfu
    obtain ⟨fu, rfl⟩ : ∃ n', fu = n' + 1 := ⟨fu - 1, by omega⟩
    have hk2 := hc.2 k (by omega)
    have hi := ih (k + 1) fu (by omega) (by omega)
    rw [ltrs] at hi
    rw [g_X8_letters_b4, mh_g10, Option.bind_some, hm, if_neg (nI_ge (by omega) (by omega)), mh_r9, Option.bind_some, mh_ld F s sd ar (p := 113) (kd := 0) (by omega) rfl (show mlen 113 = 80 from rfl) (by omega) (by omega), Option.bind_some, hev k (by omega)]
    simp only [g_X8_letters_b29]
    rw [nI_1]
    by_cases ht : c k < 10
    · rw [if_pos ht] at hi
      rw [if_pos (show nI (c k) ≤ 9 from nI_le (b := 9) (by omega) (by omega)), show nI (ltrs c k) + 0 = nI (ltrs c k + 0) from nI_add _ 0]
      exact hi
    · rw [if_neg ht] at hi
      rw [if_neg (show ¬ nI (c k) ≤ 9 from nI_ge (a := 9) (by omega) (by omega)), nI_1]
      exact hi
theorem m_letters {s : Nat → Int32} {ar : Nat → Nat → Int32} (hm : s 10 = nI mn) (hc : EvOk c mn) (hev : ∀ k, k < mn → ar 113 k = nI (c k)) : g_X8_letters (mh F s sd ar) 107 = some (nI (ltrs c mn), mh F s sd ar) := by
  have h71 := hc.1
  exact m_ltrL hm hc hev mn 0 gF (by omega) (by unfold gF; omega)
theorem m_trial {s : Nat → Int32} {ar : Nat → Nat → Int32} {j : Nat} (hj : j < 39) : aI (mh F s sd ar) 114 0 (nI j) = some (ar 114 j) := mh_ld F s sd ar (by omega) rfl (show mlen 114 = 39 from rfl) hj (by omega)
theorem m_price {s : Nat → Int32} {ar : Nat → Nat → Int32} {C : Nat} (hs : s 21 = 7) (hm : s 10 = nI mn) (hc : EvOk c mn) (hev : ∀ k, k < mn → ar 113 k = nI (c k)) (hC : C + 1000 < 100000000) (hw : Wf C (ar 112)) : ∃ w, g_X8_pricePlay (mh F s sd ar) 107 = some (w 4 + w 6 + 20 * w 8, mh F s sd (va_up ar 114 w)) ∧ Eqv (play true true true 0 c mn (ar 112)) w := by
  obtain ⟨w, g, hE⟩ := m_goOver (F := F) (sd := sd) (gone := 0) 7 hm hc hev hC hw
  refine ⟨w, ?_, hE⟩
  unfold g_X8_pricePlay
  rw [ckO_t (mh_isO _ _ _ _), g, Option.bind_some, upd_same hs, mh_r11, Option.bind_some, show (4 : Int32) = nI 4 from rfl, m_trial (by omega), Option.bind_some, Option.bind_some, show (6 : Int32) = nI 6 from rfl, m_trial (by omega), Option.bind_some, Option.bind_some, show (8 : Int32) = nI 8 from rfl, m_trial (by omega), Option.bind_some, va_up_self]
theorem m_energy {s : Nat → Int32} {ar : Nat → Nat → Int32} {gone : Int32} {C : Nat} (sv : Int32) (hs : s 21 = 7) (hm : s 10 = nI mn) (hc : EvOk c mn) (hev : ∀ k, k < mn → ar 113 k = nI (c k)) (hC : C + 1000 < 100000000) (hw : Wf C (ar 112)) : ∃ w, g_X8_energyBy (mh F s sd ar) 107 sv gone = some (play (bit sv 2) (bit sv 0) (bit sv 1) gone c mn (ar 112) 4, mh F s sd (va_up ar 114 w)) := by
  obtain ⟨w, g, hE⟩ := m_goOver (F := F) (sd := sd) (gone := gone) sv hm hc hev hC hw
  refine ⟨w, ?_⟩
  unfold g_X8_energyBy
  rw [ckO_t (mh_isO _ _ _ _), g, Option.bind_some, upd_same hs, mh_r11, Option.bind_some, show (4 : Int32) = nI 4 from rfl, m_trial (by omega), Option.bind_some, va_up_self, hE.1 4 (by omega)]
end MP
