/-! the state of both sides, and what is left as it was.
N: 0 letters of the text, 1 events, 2 acts, 3 seen. T: 0 the text, 1 and 2 what is seen, 3 which places are kept. G: 0 the start, 1 the link, 2 .. 15 ahead of each act, 16, 17 kept. -/
def AC (F : Hp) (d : Nat) (G : Nat → Nat → Int32) (p : Nat → Nat) : Prop :=
  F 20 = .inr (0, [.ref 21, .int (nI d)]) ∧ (∃ r, F 21 = .inl (2, 14, .inr (.inr (.inr (.inr r)))) ∧ ∀ j, j < 14 → r j = some (22 + 5 * p j)) ∧ (∀ j, j < 14 → p j < 14) ∧ (∀ i j, i < 14 → j < 14 → p i = p j → i = j) ∧
  ∀ j, j < 14 → ∃ w, isDz F (22 + 5 * p j) 1 w ∧ (j < d → Eqv (G (2 + j)) w)
def CS (F : Hp) (N : Nat → Nat) (T : Nat → Nat → Int32) (c : Nat → Nat) (G : Nat → Nat → Int32) (sd : Int64) : Prop :=
  F 0 = .inr (7, [.ref 1, .ref 3, .ref 10, .ref 15, .ref 20, .ref 92, .ref 95, .ref 101, .long sd]) ∧
  (F 1 = .inr (6, [.ref 2, .int (nI (N 0))]) ∧ F 2 = .inl (0, 80, .inl (T 0))) ∧
  SC F (N 1) c ∧
  (∃ w, isDz F 4 1 w ∧ Eqv (G 0) w) ∧
  (∃ w, isDz F 10 1 w ∧ Eqv (G 1) w) ∧
  (∃ mg w, isDz F 15 mg w ∧ (mg = 0 ∨ mg = 1)) ∧
  (∃ p, AC F (N 2) G p) ∧
  (F 92 = .inr (4, [.ref 93, .ref 94, .int (nI (N 3))]) ∧ F 93 = .inl (0, 6, .inl (T 1)) ∧ F 94 = .inl (0, 6, .inl (T 2))) ∧
  (F 95 = .inr (5, [.ref 96, .int (T 3 0)]) ∧ ∃ w, isDz F 96 1 w ∧ (T 3 0 = 1 → Eqv (G 16) w)) ∧
  (F 101 = .inr (5, [.ref 102, .int (T 3 1)]) ∧ ∃ w, isDz F 102 1 w ∧ (T 3 1 = 1 → Eqv (G 17) w))
def MS (F : Hp) (N : Nat → Nat) (T : Nat → Nat → Int32) (c : Nat → Nat) (G : Nat → Nat → Int32) (sd : Int64) : Prop :=
  ∃ (s : Nat → Int32) (ar : Nat → Nat → Int32), mh F s sd ar = F ∧ (s 2 = nI (N 0) ∧ s 10 = nI (N 1) ∧ s 13 = nI (N 2) ∧ s 16 = nI (N 3) ∧ s 21 = 7) ∧ (ar 108 = T 0 ∧ ar 118 = T 1 ∧ ar 119 = T 2 ∧ ar 117 = T 3) ∧ Eqv (G 1) (ar 111) ∧ Eqv (G 0) (ar 112) ∧ (∀ k, k < N 1 → ar 113 k = nI (c k)) ∧ (∀ j, j < N 2 → Eqv (G (2 + j)) (fun i => ar 115 (39 * j + i))) ∧ ∀ i, i < 2 → T 3 i = 1 → Eqv (G (16 + i)) (fun k => ar 116 (39 * i + k))
def fresh (w : Nat → Int32) : Prop := Wf 0 w ∧ (∀ i, i < 9 → w i = 0) ∧ w 15 = 0 ∧ w 29 = 0
def WS (B : Nat) (N : Nat → Nat) (T : Nat → Nat → Int32) (c : Nat → Nat) (G : Nat → Nat → Int32) : Prop :=
  N 0 ≤ 80 ∧ EvOk c (N 1) ∧ N 2 ≤ 14 ∧ (N 3 ≤ 6 ∧ ∀ k, k < N 3 → ∃ v, v ≤ 99 ∧ T 1 k = nI v) ∧ (T 3 0 = 0 ∨ T 3 0 = 1) ∧ (T 3 1 = 0 ∨ T 3 1 = 1) ∧ fresh (G 0) ∧ Wf B (G 1) ∧ (∀ j, j < N 2 → Wf B (G (2 + j))) ∧ ∀ i, i < 2 → T 3 i = 1 → Wf B (G (16 + i))
theorem WS_mono {B B' : Nat} {N : Nat → Nat} {T : Nat → Nat → Int32} {c : Nat → Nat} {G : Nat → Nat → Int32} (hB : B ≤ B') (h : WS B N T c G) : WS B' N T c G := by
  obtain ⟨h1, h2, h3, h4, h5, h6, h7, h8, h9, h10⟩ := h
  exact ⟨h1, h2, h3, h4, h5, h6, h7, Wf_mono hB h8, fun j hj => Wf_mono hB (h9 j hj), fun i hi hk => Wf_mono hB (h10 i hi hk)⟩
section ST
variable {F F1 : Hp} {N : Nat → Nat} {T : Nat → Nat → Int32} {c : Nat → Nat} {G : Nat → Nat → Int32} {sd : Int64}
theorem AC_fr {d : Nat} {p : Nat → Nat} (h : AC F d G p) (hf : ∀ k, 20 ≤ k → k < 92 → F1 k = F k) : AC F1 d G p := by
  obtain ⟨h1, h2, h3, h4, h5⟩ := h
  refine ⟨by rw [hf 20 (by omega) (by omega)]; exact h1, by rw [hf 21 (by omega) (by omega)]; exact h2, h3, h4, fun j hj => ?_⟩
  obtain ⟨w, g1, g2⟩ := h5 j hj
  have := h3 j hj
  exact ⟨w, isDz_fr g1 (fun k k1 k2 => hf k (by omega) (by omega)), g2⟩
theorem CS_fr (h : CS F N T c G sd) (hf : ∀ k, k < 107 → F1 k = F k) : CS F1 N T c G sd := by
  obtain ⟨h0, ⟨h1, h2⟩, h3, ⟨w4, a4, b4⟩, ⟨w5, a5, b5⟩, ⟨mg, w6, a6, b6⟩, ⟨p, h7⟩, ⟨h8, h9, h10⟩, ⟨h11, w12, a12, b12⟩, h13, w14, a14, b14⟩ := h
  refine ⟨by rw [hf 0 (by omega)]; exact h0, ⟨by rw [hf 1 (by omega)]; exact h1, by rw [hf 2 (by omega)]; exact h2⟩, SC_fr h3 (hf 3 (by omega)) (hf 9 (by omega)), ⟨w4, isDz_fr a4 (fun k k1 k2 => hf k (by omega)), b4⟩, ⟨w5, isDz_fr a5 (fun k k1 k2 => hf k (by omega)), b5⟩, ⟨mg, w6, isDz_fr a6 (fun k k1 k2 => hf k (by omega)), b6⟩, ⟨p, AC_fr h7 (fun k k1 k2 => hf k (by omega))⟩, ⟨by rw [hf 92 (by omega)]; exact h8, by rw [hf 93 (by omega)]; exact h9, by rw [hf 94 (by omega)]; exact h10⟩, ⟨by rw [hf 95 (by omega)]; exact h11, w12, isDz_fr a12 (fun k k1 k2 => hf k (by omega)), b12⟩, by rw [hf 101 (by omega)]; exact h13, w14, isDz_fr a14 (fun k k1 k2 => hf k (by omega)), b14⟩
theorem MS_fr (h : MS F N T c G sd) (hf : ∀ k, 107 ≤ k → F1 k = F k) : MS F1 N T c G sd := by
  obtain ⟨s, ar, h1, h2⟩ := h
  exact ⟨s, ar, mh_fr h1 hf, h2⟩
/-- the trial Doze is free -/
theorem CS_trial {mg : Int32} {w : Nat → Int32} (hm : mg = 0 ∨ mg = 1) (h : CS F N T c G sd) : CS (dz F 15 mg w) N T c G sd := by
  have hf : ∀ k, k < 15 ∨ 20 ≤ k → dz F 15 mg w k = F k := fun k hk => dz_n (by omega)
  obtain ⟨h0, ⟨h1, h2⟩, h3, ⟨w4, a4, b4⟩, ⟨w5, a5, b5⟩, -, ⟨p, h7⟩, ⟨h8, h9, h10⟩, ⟨h11, w12, a12, b12⟩, h13, w14, a14, b14⟩ := h
  refine ⟨by rw [hf 0 (by omega)]; exact h0, ⟨by rw [hf 1 (by omega)]; exact h1, by rw [hf 2 (by omega)]; exact h2⟩, SC_fr h3 (hf 3 (by omega)) (hf 9 (by omega)), ⟨w4, isDz_fr a4 (fun k k1 k2 => hf k (by omega)), b4⟩, ⟨w5, isDz_fr a5 (fun k k1 k2 => hf k (by omega)), b5⟩, ⟨mg, w, isDz_dz F 15 mg w, hm⟩, ⟨p, AC_fr h7 (fun k k1 k2 => hf k (by omega))⟩, ⟨by rw [hf 92 (by omega)]; exact h8, by rw [hf 93 (by omega)]; exact h9, by rw [hf 94 (by omega)]; exact h10⟩, ⟨by rw [hf 95 (by omega)]; exact h11, w12, isDz_fr a12 (fun k k1 k2 => hf k (by omega)), b12⟩, by rw [hf 101 (by omega)]; exact h13, w14, isDz_fr a14 (fun k k1 k2 => hf k (by omega)), b14⟩
theorem CS_now {W w : Nat → Int32} (hE : Eqv W w) (h : CS F N T c G sd) : CS (dz F 10 1 w) N T c (va_up G 1 W) sd := by
  have hf : ∀ k, k < 10 ∨ 15 ≤ k → dz F 10 1 w k = F k := fun k hk => dz_n (by omega)
  obtain ⟨h0, ⟨h1, h2⟩, h3, ⟨w4, a4, b4⟩, -, ⟨mg, w6, a6, b6⟩, ⟨p, h7⟩, ⟨h8, h9, h10⟩, ⟨h11, w12, a12, b12⟩, h13, w14, a14, b14⟩ := h
  refine ⟨by rw [hf 0 (by omega)]; exact h0, ⟨by rw [hf 1 (by omega)]; exact h1, by rw [hf 2 (by omega)]; exact h2⟩, SC_fr h3 (hf 3 (by omega)) (hf 9 (by omega)), ⟨w4, isDz_fr a4 (fun k k1 k2 => hf k (by omega)), by rw [va_up_ne _ _ (by omega)]; exact b4⟩, ⟨w, isDz_dz F 10 1 w, by rw [va_up_self]; exact hE⟩, ⟨mg, w6, isDz_fr a6 (fun k k1 k2 => hf k (by omega)), b6⟩, ⟨p, ?_⟩, ⟨by rw [hf 92 (by omega)]; exact h8, by rw [hf 93 (by omega)]; exact h9, by rw [hf 94 (by omega)]; exact h10⟩, ⟨by rw [hf 95 (by omega)]; exact h11, w12, isDz_fr a12 (fun k k1 k2 => hf k (by omega)), by rw [va_up_ne _ _ (by omega)]; exact b12⟩, by rw [hf 101 (by omega)]; exact h13, w14, isDz_fr a14 (fun k k1 k2 => hf k (by omega)), by rw [va_up_ne _ _ (by omega)]; exact b14⟩
  obtain ⟨g1, g2, g3, g4, g5⟩ := AC_fr h7 (F1 := dz F 10 1 w) (fun k k1 k2 => hf k (by omega))
  refine ⟨g1, g2, g3, g4, fun j hj => ?_⟩
  obtain ⟨v, q1, q2⟩ := g5 j hj
  exact ⟨v, q1, by rw [va_up_ne _ _ (by omega)]; exact q2⟩
/-! reading the program's root -/
theorem CS_r0 (h : CS F N T c G sd) : gR F 0 7 0 = some 1 := by simp only [gR, gV, h.1]; rfl
theorem CS_r1 (h : CS F N T c G sd) : gR F 0 7 1 = some 3 := by simp only [gR, gV, h.1]; rfl
theorem CS_r2 (h : CS F N T c G sd) : gR F 0 7 2 = some 10 := by simp only [gR, gV, h.1]; rfl
theorem CS_r3 (h : CS F N T c G sd) : gR F 0 7 3 = some 15 := by simp only [gR, gV, h.1]; rfl
theorem CS_r4 (h : CS F N T c G sd) : gR F 0 7 4 = some 20 := by simp only [gR, gV, h.1]; rfl
theorem CS_r5 (h : CS F N T c G sd) : gR F 0 7 5 = some 92 := by simp only [gR, gV, h.1]; rfl
theorem CS_r6 (h : CS F N T c G sd) : gR F 0 7 6 = some 95 := by simp only [gR, gV, h.1]; rfl
theorem CS_r7 (h : CS F N T c G sd) : gR F 0 7 7 = some 101 := by simp only [gR, gV, h.1]; rfl
theorem CS_r8 (h : CS F N T c G sd) : gL F 0 7 8 = some sd := by simp only [gL, gV, h.1]; rfl
theorem CS_o (h : CS F N T c G sd) : isO F 0 7 = true := by simp [isO, h.1]
theorem CS_t1 (h : CS F N T c G sd) : gI F 1 6 1 = some (nI (N 0)) := by simp only [gI, gV, h.2.1.1]; rfl
theorem CS_t0 (h : CS F N T c G sd) : gR F 1 6 0 = some 2 := by simp only [gR, gV, h.2.1.1]; rfl
theorem CS_to (h : CS F N T c G sd) : isO F 1 6 = true := by simp [isO, h.2.1.1]
theorem CS_tn (h : CS F N T c G sd) : aN F 2 = some (nI 80) := by simp only [aN, h.2.1.2]; rfl
theorem arr_ld {p kd n j : Nat} {f : Nat → Int32} (h : F p = .inl (kd, n, .inl f)) (hj : j < n) (hn : n < 2 ^ 31) : aI F p kd (nI j) = some (f j) := by
  have hb : ¬ (nI j < 0 ∨ n ≤ (nI j).toNatClampNeg) := nI_in hj hn
  have hg : gA F p kd = some (n, f) := by simp only [gA, h, if_true]
  unfold aI
  rw [hg]
  show (if nI j < 0 ∨ n ≤ (nI j).toNatClampNeg then none else some (f (nI j).toNatClampNeg)) = _
  rw [if_neg hb, nI_clamp (by omega)]
theorem arr_st {p kd n j : Nat} {f : Nat → Int32} (x : Int32) (h : F p = .inl (kd, n, .inl f)) (hj : j < n) (hn : n < 2 ^ 31) : sI F p kd (nI j) x = some (va_up F p (.inl (kd, n, .inl (upd f j x)))) := by
  have hb : ¬ (nI j < 0 ∨ n ≤ (nI j).toNatClampNeg) := nI_in hj hn
  have hg : gA F p kd = some (n, f) := by simp only [gA, h, if_true]
  unfold sI
  rw [hg]
  show (if nI j < 0 ∨ n ≤ (nI j).toNatClampNeg then none else some (va_up F p (.inl (kd, n, .inl (upd f (nI j).toNatClampNeg x))))) = _
  rw [if_neg hb, nI_clamp (by omega)]
end ST
/-- a step of both sides: they answer alike, and the states go with each other again -/
def Jn (B : Nat) (F : Hp) : Prop := ∃ N T c G sd, WS B N T c G ∧ CS F N T c G sd ∧ MS F N T c G sd
def Stp1 {α : Type} (B : Nat) (gc gm : Hp → Option (α × Hp)) : Prop := ∀ F, Jn B F → ∃ r F1 F2, gc F = some (r, F1) ∧ gm F1 = some (r, F2) ∧ Jn (B + 20) F2
theorem stp_of {α : Type} {B : Nat} {gc gm : Hp → Option (α × Hp)} (h : ∀ F N T c G sd, WS B N T c G → CS F N T c G sd → MS F N T c G sd → ∃ r N' T' c' G' sd', WS (B + 20) N' T' c' G' ∧ (∃ F1, gc F = some (r, F1) ∧ CS F1 N' T' c' G' sd' ∧ ∀ k, 107 ≤ k → F1 k = F k) ∧ ∀ F1, MS F1 N T c G sd → ∃ F2, gm F1 = some (r, F2) ∧ MS F2 N' T' c' G' sd' ∧ ∀ k, k < 107 → F2 k = F1 k) : Stp1 B gc gm := by
  intro F ⟨N, T, c, G, sd, h1, h2, h3⟩
  obtain ⟨r, N', T', c', G', sd', g1, ⟨F1, g2, g3, g4⟩, g5⟩ := h F N T c G sd h1 h2 h3
  obtain ⟨F2, g6, g7, g8⟩ := g5 F1 (MS_fr h3 g4)
  exact ⟨r, F1, F2, g2, g6, N', T', c', G', sd', g1, CS_fr g3 g8, g7⟩
