/-! the start of both -/
theorem fresh_fpg : fresh fpg := by
  refine ⟨⟨Or.inl rfl, fun _ => rfl, fun _ => rfl, ⟨0, Nat.le_refl _, rfl⟩, ⟨2, by omega, by omega, rfl⟩, fun i hi => ⟨1, by omega, by omega, ?_⟩, fun e he => ⟨0, by omega, ?_, fun k hk => absurd hk (by omega)⟩⟩, fun i hi => ?_, rfl, rfl⟩
  · rcases hi with rfl | rfl | rfl | rfl | rfl | rfl | rfl | rfl <;> rfl
  · rcases he with rfl | rfl <;> rfl
  · rcases (show i = 0 ∨ i = 1 ∨ i = 2 ∨ i = 3 ∨ i = 4 ∨ i = 5 ∨ i = 6 ∨ i = 7 ∨ i = 8 by omega) with rfl | rfl | rfl | rfl | rfl | rfl | rfl | rfl | rfl <;> rfl
theorem fpg_frst : ∀ i, i < 39 → fpg i = frst (fun _ => 0) i := by decide +kernel
theorem Jn_start {F2 F4 : Hp} (h : F2 0 = .inr (7, [.ref 1, .ref 3, .ref 10, .ref 15, .ref 20, .ref 92, .ref 95, .ref 101, .long 0]) ∧ (F2 1 = .inr (6, [.ref 2, .int 0]) ∧ F2 2 = zrow 80) ∧ (F2 3 = .inr (2, [.ref 4, .ref 9, .int 0]) ∧ F2 9 = zrow 71) ∧ isDz F2 4 1 fpg ∧ isDz F2 10 1 fpg ∧ isDz F2 15 1 fpg ∧ IH F2 F2 14 ∧ (F2 92 = .inr (4, [.ref 93, .ref 94, .int 0]) ∧ F2 93 = zrow 6 ∧ F2 94 = zrow 6) ∧ (F2 95 = .inr (5, [.ref 96, .int 0]) ∧ isDz F2 96 1 fpg) ∧ (F2 101 = .inr (5, [.ref 102, .int 0]) ∧ isDz F2 102 1 fpg)) (h4 : ∀ k, k < 107 → F4 k = F2 k) (hm : mh F4 (fun i => if i = 21 then 7 else 0) 0 (va_up (va_up (fun _ _ => 0) 111 (frst (fun _ => 0))) 112 (frst (fun _ => 0))) = F4) : Jn 1000 F4 := by
  have hEv : EvOk (fun _ => 0) 0 := ⟨by omega, fun k hk => absurd hk (by omega)⟩
  have hE : Eqv fpg (frst (fun _ => 0)) := Eqv_39 (Wf_Lw fresh_fpg.1) fpg_frst
  have n01 : ¬ (0 : Int32) = 1 := by decide
  refine ⟨fun _ => 0, fun _ _ => 0, fun _ => 0, fun _ => fpg, 0, ⟨by show 0 ≤ 80; omega, hEv, by show 0 ≤ 14; omega, ⟨by show 0 ≤ 6; omega, fun k hk => absurd (show k < 0 from hk) (by omega)⟩, Or.inl rfl, Or.inl rfl, fresh_fpg, Wf_mono (by omega) fresh_fpg.1, fun j hj => absurd (show j < 0 from hj) (by omega), fun i hi hk => absurd hk n01⟩, CS_fr (F := F2) ?_ h4, ⟨_, _, hm, ⟨rfl, rfl, rfl, rfl, rfl⟩, ⟨rfl, rfl, rfl, rfl⟩, hE, hE, fun k hk => absurd (show k < 0 from hk) (by omega), fun j hj => absurd (show j < 0 from hj) (by omega), fun i hi hk => absurd hk n01⟩⟩
  obtain ⟨h0, ⟨h1, h2⟩, ⟨h3, h9⟩, d4, d10, d15, ⟨i1, ⟨r, i2, i3⟩, i4, -⟩, ⟨s1, s2, s3⟩, ⟨t1, t2⟩, u1, u2⟩ := h
  exact ⟨h0, ⟨h1, h2⟩, ⟨h3, ⟨_, h9, fun k hk => absurd (show k < 0 from hk) (by omega)⟩, hEv⟩, ⟨fpg, d4, Eqv_refl _⟩, ⟨fpg, d10, Eqv_refl _⟩, ⟨1, fpg, d15, Or.inr rfl⟩, ⟨fun j => j, i1, ⟨r, i2, i3⟩, fun j hj => hj, fun i j _ _ e => e, fun j hj => ⟨fpg, i4 j hj, fun q => absurd (show j < 0 from q) (by omega)⟩⟩, ⟨s1, s2, s3⟩, ⟨t1, fpg, t2, fun z => absurd z n01⟩, u1, fpg, u2, fun z => absurd z n01⟩
