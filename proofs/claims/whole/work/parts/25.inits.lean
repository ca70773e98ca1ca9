def g_X3_init (n : Nat) (F : Hp) (a0 : Nat) : Option Hp := ((pV F a0 3 0 (.int 1)).bind fun F1 => ((pV F1 a0 3 1 (.int 1)).bind fun F2 => ((pV F2 a0 3 2 (.int 1)).bind fun F3 => ((pV F3 a0 3 3 (.int 1)).bind fun F4 => ((pV F4 a0 3 4 (.int 0)).bind fun F5 => (letH (va_up F5 n (.inl (0, 9, .inl (fun _ => 0)))) fun F6 => ((pV F6 a0 3 5 (.ref n)).bind fun F7 => some F7)))))))
set_option maxHeartbeats 4000000 in
set_option maxRecDepth 100000 in
theorem bl_X3_init {X : Cx} {n : Nat} (hn : X.2.2.2.2.1 = n) {F' : Hp} (hX : Md X cX3_init RX3 1 (rmk 1 1 9) none true none F') (F : Hp) (a0 : Nat) (h : g_X3_init n F a0 = some F') : PW X 0 0 F 0 [(0, .ref a0)] [] := by
  have hO := hX.1
  unfold g_X3_init at h
  refine pw_aload_n hO dX3_init_0 0 rfl ?_
  refine pw_obj hO dX3_init_1 ol_X3_3 (Nat.le_of_ble_eq_true rfl) (Nat.le_of_ble_eq_true rfl) (Nat.le_of_ble_eq_true rfl) ?_
  refine pw_aload_n hO dX3_init_4 0 rfl ?_
  refine pw_iconst hO dX3_init_5 (v := 1) (by decide) ?_
  refine pw_putI hO dX3_init_6 fp_X3_9 h (fun F1 h => ?_)
  refine pw_aload_n hO dX3_init_9 0 rfl ?_
  refine pw_iconst hO dX3_init_10 (v := 1) (by decide) ?_
  refine pw_putI hO dX3_init_11 fp_X3_15 h (fun F2 h => ?_)
  refine pw_aload_n hO dX3_init_14 0 rfl ?_
  refine pw_iconst hO dX3_init_15 (v := 1) (by decide) ?_
  refine pw_putI hO dX3_init_16 fp_X3_18 h (fun F3 h => ?_)
  refine pw_aload_n hO dX3_init_19 0 rfl ?_
  refine pw_iconst hO dX3_init_20 (v := 1) (by decide) ?_
  refine pw_putI hO dX3_init_21 fp_X3_21 h (fun F4 h => ?_)
  refine pw_aload_n hO dX3_init_24 0 rfl ?_
  refine pw_iconst hO dX3_init_25 (v := 0) (by decide) ?_
  refine pw_putI hO dX3_init_26 fp_X3_24 h (fun F5 h => ?_)
  refine pw_aload_n hO dX3_init_29 0 rfl ?_
  refine pw_bipush hO dX3_init_30 (v := 9) (by decide) ?_
  refine pw_newa hO hn dX3_init_32 ac_int 9 n 1 9 (by decide) (by decide) (Nat.le_of_ble_eq_true rfl) rfl rfl rfl ⟨Nat.le_of_ble_eq_true rfl, Nat.le_of_ble_eq_true rfl⟩ ?_
  obtain ⟨F6, eF6, h⟩ := letH_spec h
  rw [← eF6]
  refine pw_putF hO hX.2 dX3_init_34 fpf_X3_27 (fun _ => rfl) (fun _ => rfl) h (fun F7 h => ?_)
  exact pw_vret hO hX.2 dX3_init_37 h
theorem ct_X3_init {n : Nat} {F : Hp} {a0 : Nat} {F' : Hp} (h : g_X3_init n F a0 = some F') : CT yX3_init cX3_init 1 none (rmk 1 1 9) n F [.ref a0] none F' :=
  ct_intro (own := RX3) (nm := true) (by decide) rfl (fun _ => rfl) (Nat.le_of_ble_eq_true rfl) (fun X hn hX => bl_X3_init hn hX F a0 h)
def g_X1_init (n : Nat) (F : Hp) (a0 : Nat) : Option Hp := (letH (va_up F n (.inr (3, [.int 0, .int 0, .int 0, .int 0, .int 0, .null]))) fun F1 => ((g_X3_init (n + 1) F1 n).bind fun F2 => ((pV F2 a0 1 0 (.ref n)).bind fun F3 => (letH (va_up F3 (n + 2) (.inr (3, [.int 0, .int 0, .int 0, .int 0, .int 0, .null]))) fun F4 => ((g_X3_init (n + 3) F4 (n + 2)).bind fun F5 => ((pV F5 a0 1 1 (.ref (n + 2))).bind fun F6 => ((pZ F6 a0 1 2 1).bind fun F7 => ((pV F7 a0 1 3 (.int 1)).bind fun F8 => ((pV F8 a0 1 4 (.int 2)).bind fun F9 => ((pV F9 a0 1 5 (.int 0)).bind fun F10 => ((pV F10 a0 1 6 (.int 0)).bind fun F11 => ((pV F11 a0 1 7 (.int 0)).bind fun F12 => ((pV F12 a0 1 8 (.int 0)).bind fun F13 => ((pV F13 a0 1 9 (.int 0)).bind fun F14 => ((pV F14 a0 1 10 (.int 0)).bind fun F15 => ((pV F15 a0 1 11 (.int 0)).bind fun F16 => ((pV F16 a0 1 12 (.int 0)).bind fun F17 => ((pV F17 a0 1 13 (.int 0)).bind fun F18 => some F18))))))))))))))))))
set_option maxHeartbeats 4000000 in
set_option maxRecDepth 100000 in
theorem bl_X1_init {X : Cx} {n : Nat} (hn : X.2.2.2.2.1 = n) {F' : Hp} (hX : Md X cX1_init RX1 1 (rmk 2 4 30) none true none F') (F : Hp) (a0 : Nat) (h : g_X1_init n F a0 = some F') : PW X 0 0 F 0 [(0, .ref a0)] [] := by
  have hO := hX.1
  unfold g_X1_init at h
  refine pw_aload_n hO dX1_init_0 0 rfl ?_
  refine pw_obj hO dX1_init_1 ol_X1_3 (Nat.le_of_ble_eq_true rfl) (Nat.le_of_ble_eq_true rfl) (Nat.le_of_ble_eq_true rfl) ?_
  refine pw_aload_n hO dX1_init_4 0 rfl ?_
  refine pw_new hO hn dX1_init_5 cl_X1_9 n 1 6 rfl rfl rfl ⟨Nat.le_of_ble_eq_true rfl, Nat.le_of_ble_eq_true rfl⟩ ?_
  obtain ⟨F1, eF1, h⟩ := letH_spec h
  rw [← eF1]
  refine pw_dup hO dX1_init_8 rfl ?_
  refine pw_runI (st := [.ref n, .ref a0]) (d := 1) (K := 1) (S := 9) hO hn dX1_init_9 il_X1_11 h (n + 1) 2 15 rfl rfl rfl (fun F1 hg => ct_X3_init hg) ⟨Nat.le_of_ble_eq_true rfl, Nat.le_of_ble_eq_true rfl⟩ ⟨Nat.le_of_ble_eq_true rfl, Nat.le_of_ble_eq_true rfl⟩ (Nat.le_of_ble_eq_true rfl) (fun F2 h => ?_)
  refine pw_putF hO hX.2 dX1_init_12 fpf_X1_12 (fun _ => rfl) (fun _ => rfl) h (fun F3 h => ?_)
  refine pw_aload_n hO dX1_init_15 0 rfl ?_
  refine pw_new hO hn dX1_init_16 cl_X1_9 (n + 2) 3 21 rfl rfl rfl ⟨Nat.le_of_ble_eq_true rfl, Nat.le_of_ble_eq_true rfl⟩ ?_
  obtain ⟨F4, eF4, h⟩ := letH_spec h
  rw [← eF4]
  refine pw_dup hO dX1_init_19 rfl ?_
  refine pw_runI (st := [.ref (n + 2), .ref a0]) (d := 1) (K := 1) (S := 9) hO hn dX1_init_20 il_X1_11 h (n + 3) 4 30 rfl rfl rfl (fun F1 hg => ct_X3_init hg) ⟨Nat.le_of_ble_eq_true rfl, Nat.le_of_ble_eq_true rfl⟩ ⟨Nat.le_of_ble_eq_true rfl, Nat.le_of_ble_eq_true rfl⟩ (Nat.le_of_ble_eq_true rfl) (fun F5 h => ?_)
  refine pw_putF hO hX.2 dX1_init_23 fpf_X1_18 (fun _ => rfl) (fun _ => rfl) h (fun F6 h => ?_)
  refine pw_aload_n hO dX1_init_26 0 rfl ?_
  refine pw_iconst hO dX1_init_27 (v := 1) (by decide) ?_
  refine pw_putZ hO dX1_init_28 fp_X1_21 h (fun F7 h => ?_)
  refine pw_aload_n hO dX1_init_31 0 rfl ?_
  refine pw_iconst hO dX1_init_32 (v := 1) (by decide) ?_
  refine pw_putI hO dX1_init_33 fp_X1_25 h (fun F8 h => ?_)
  refine pw_aload_n hO dX1_init_36 0 rfl ?_
  refine pw_iconst hO dX1_init_37 (v := 2) (by decide) ?_
  refine pw_putI hO dX1_init_38 fp_X1_29 h (fun F9 h => ?_)
  refine pw_aload_n hO dX1_init_41 0 rfl ?_
  refine pw_iconst hO dX1_init_42 (v := 0) (by decide) ?_
  refine pw_putI hO dX1_init_43 fp_X1_32 h (fun F10 h => ?_)
  refine pw_aload_n hO dX1_init_46 0 rfl ?_
  refine pw_iconst hO dX1_init_47 (v := 0) (by decide) ?_
  refine pw_putI hO dX1_init_48 fp_X1_35 h (fun F11 h => ?_)
  refine pw_aload_n hO dX1_init_51 0 rfl ?_
  refine pw_iconst hO dX1_init_52 (v := 0) (by decide) ?_
  refine pw_putI hO dX1_init_53 fp_X1_38 h (fun F12 h => ?_)
  refine pw_aload_n hO dX1_init_56 0 rfl ?_
  refine pw_iconst hO dX1_init_57 (v := 0) (by decide) ?_
  refine pw_putI hO dX1_init_58 fp_X1_41 h (fun F13 h => ?_)
  refine pw_aload_n hO dX1_init_61 0 rfl ?_
  refine pw_iconst hO dX1_init_62 (v := 0) (by decide) ?_
  refine pw_putI hO dX1_init_63 fp_X1_44 h (fun F14 h => ?_)
  refine pw_aload_n hO dX1_init_66 0 rfl ?_
  refine pw_iconst hO dX1_init_67 (v := 0) (by decide) ?_
  refine pw_putI hO dX1_init_68 fp_X1_47 h (fun F15 h => ?_)
  refine pw_aload_n hO dX1_init_71 0 rfl ?_
  refine pw_iconst hO dX1_init_72 (v := 0) (by decide) ?_
  refine pw_putI hO dX1_init_73 fp_X1_50 h (fun F16 h => ?_)
  refine pw_aload_n hO dX1_init_76 0 rfl ?_
  refine pw_iconst hO dX1_init_77 (v := 0) (by decide) ?_
  refine pw_putI hO dX1_init_78 fp_X1_53 h (fun F17 h => ?_)
  refine pw_aload_n hO dX1_init_81 0 rfl ?_
  refine pw_iconst hO dX1_init_82 (v := 0) (by decide) ?_
  refine pw_putI hO dX1_init_83 fp_X1_56 h (fun F18 h => ?_)
  exact pw_vret hO hX.2 dX1_init_86 h
theorem ct_X1_init {n : Nat} {F : Hp} {a0 : Nat} {F' : Hp} (h : g_X1_init n F a0 = some F') : CT yX1_init cX1_init 1 none (rmk 2 4 30) n F [.ref a0] none F' :=
  ct_intro (own := RX1) (nm := true) (by decide) rfl (fun _ => rfl) (Nat.le_of_ble_eq_true rfl) (fun X hn hX => bl_X1_init hn hX F a0 h)
def g_X0_init (n : Nat) (F : Hp) (a0 : Nat) : Option Hp := (letH (va_up F n (.inl (2, 14, .inr (.inr (.inr (.inr (fun _ => none))))))) fun F1 => ((pV F1 a0 0 0 (.ref n)).bind fun F2 => ((gR F2 a0 0 0).bind fun q3 => ((aN F2 q3).bind fun x4 => (if x4 ≤ 0 then none else ((gR F2 a0 0 0).bind fun q6 => (letH (va_up F2 (n + 1) (.inr (1, [.null, .null, .int 0, .int 0, .int 0, .int 0, .int 0, .int 0, .int 0, .int 0, .int 0, .int 0, .int 0, .int 0]))) fun F7 => ((g_X1_init (n + 2) F7 (n + 1)).bind fun F8 => ((sQ F8 q6 0 (n + 1)).bind fun F9 => ((gR F9 a0 0 0).bind fun q10 => ((aN F9 q10).bind fun x11 => (if x11 ≤ (0 + 1) then none else ((gR F9 a0 0 0).bind fun q13 => (letH (va_up F9 (n + 6) (.inr (1, [.null, .null, .int 0, .int 0, .int 0, .int 0, .int 0, .int 0, .int 0, .int 0, .int 0, .int 0, .int 0, .int 0]))) fun F14 => ((g_X1_init (n + 7) F14 (n + 6)).bind fun F15 => ((sQ F15 q13 (0 + 1) (n + 6)).bind fun F16 => ((gR F16 a0 0 0).bind fun q17 => ((aN F16 q17).bind fun x18 => (if x18 ≤ ((0 + 1) + 1) then none else ((gR F16 a0 0 0).bind fun q20 => (letH (va_up F16 (n + 11) (.inr (1, [.null, .null, .int 0, .int 0, .int 0, .int 0, .int 0, .int 0, .int 0, .int 0, .int 0, .int 0, .int 0, .int 0]))) fun F21 => ((g_X1_init (n + 12) F21 (n + 11)).bind fun F22 => ((sQ F22 q20 ((0 + 1) + 1) (n + 11)).bind fun F23 => ((gR F23 a0 0 0).bind fun q24 => ((aN F23 q24).bind fun x25 => (if x25 ≤ (((0 + 1) + 1) + 1) then none else ((gR F23 a0 0 0).bind fun q27 => (letH (va_up F23 (n + 16) (.inr (1, [.null, .null, .int 0, .int 0, .int 0, .int 0, .int 0, .int 0, .int 0, .int 0, .int 0, .int 0, .int 0, .int 0]))) fun F28 => ((g_X1_init (n + 17) F28 (n + 16)).bind fun F29 => ((sQ F29 q27 (((0 + 1) + 1) + 1) (n + 16)).bind fun F30 => ((gR F30 a0 0 0).bind fun q31 => ((aN F30 q31).bind fun x32 => (if x32 ≤ ((((0 + 1) + 1) + 1) + 1) then none else ((gR F30 a0 0 0).bind fun q34 => (letH (va_up F30 (n + 21) (.inr (1, [.null, .null, .int 0, .int 0, .int 0, .int 0, .int 0, .int 0, .int 0, .int 0, .int 0, .int 0, .int 0, .int 0]))) fun F35 => ((g_X1_init (n + 22) F35 (n + 21)).bind fun F36 => ((sQ F36 q34 ((((0 + 1) + 1) + 1) + 1) (n + 21)).bind fun F37 => ((gR F37 a0 0 0).bind fun q38 => ((aN F37 q38).bind fun x39 => (if x39 ≤ (((((0 + 1) + 1) + 1) + 1) + 1) then none else ((gR F37 a0 0 0).bind fun q41 => (letH (va_up F37 (n + 26) (.inr (1, [.null, .null, .int 0, .int 0, .int 0, .int 0, .int 0, .int 0, .int 0, .int 0, .int 0, .int 0, .int 0, .int 0]))) fun F42 => ((g_X1_init (n + 27) F42 (n + 26)).bind fun F43 => ((sQ F43 q41 (((((0 + 1) + 1) + 1) + 1) + 1) (n + 26)).bind fun F44 => ((gR F44 a0 0 0).bind fun q45 => ((aN F44 q45).bind fun x46 => (if x46 ≤ ((((((0 + 1) + 1) + 1) + 1) + 1) + 1) then none else ((gR F44 a0 0 0).bind fun q48 => (letH (va_up F44 (n + 31) (.inr (1, [.null, .null, .int 0, .int 0, .int 0, .int 0, .int 0, .int 0, .int 0, .int 0, .int 0, .int 0, .int 0, .int 0]))) fun F49 => ((g_X1_init (n + 32) F49 (n + 31)).bind fun F50 => ((sQ F50 q48 ((((((0 + 1) + 1) + 1) + 1) + 1) + 1) (n + 31)).bind fun F51 => ((gR F51 a0 0 0).bind fun q52 => ((aN F51 q52).bind fun x53 => (if x53 ≤ (((((((0 + 1) + 1) + 1) + 1) + 1) + 1) + 1) then none else ((gR F51 a0 0 0).bind fun q55 => (letH (va_up F51 (n + 36) (.inr (1, [.null, .null, .int 0, .int 0, .int 0, .int 0, .int 0, .int 0, .int 0, .int 0, .int 0, .int 0, .int 0, .int 0]))) fun F56 => ((g_X1_init (n + 37) F56 (n + 36)).bind fun F57 => ((sQ F57 q55 (((((((0 + 1) + 1) + 1) + 1) + 1) + 1) + 1) (n + 36)).bind fun F58 => ((gR F58 a0 0 0).bind fun q59 => ((aN F58 q59).bind fun x60 => (if x60 ≤ ((((((((0 + 1) + 1) + 1) + 1) + 1) + 1) + 1) + 1) then none else ((gR F58 a0 0 0).bind fun q62 => (letH (va_up F58 (n + 41) (.inr (1, [.null, .null, .int 0, .int 0, .int 0, .int 0, .int 0, .int 0, .int 0, .int 0, .int 0, .int 0, .int 0, .int 0]))) fun F63 => ((g_X1_init (n + 42) F63 (n + 41)).bind fun F64 => ((sQ F64 q62 ((((((((0 + 1) + 1) + 1) + 1) + 1) + 1) + 1) + 1) (n + 41)).bind fun F65 => ((gR F65 a0 0 0).bind fun q66 => ((aN F65 q66).bind fun x67 => (if x67 ≤ (((((((((0 + 1) + 1) + 1) + 1) + 1) + 1) + 1) + 1) + 1) then none else ((gR F65 a0 0 0).bind fun q69 => (letH (va_up F65 (n + 46) (.inr (1, [.null, .null, .int 0, .int 0, .int 0, .int 0, .int 0, .int 0, .int 0, .int 0, .int 0, .int 0, .int 0, .int 0]))) fun F70 => ((g_X1_init (n + 47) F70 (n + 46)).bind fun F71 => ((sQ F71 q69 (((((((((0 + 1) + 1) + 1) + 1) + 1) + 1) + 1) + 1) + 1) (n + 46)).bind fun F72 => ((gR F72 a0 0 0).bind fun q73 => ((aN F72 q73).bind fun x74 => (if x74 ≤ ((((((((((0 + 1) + 1) + 1) + 1) + 1) + 1) + 1) + 1) + 1) + 1) then none else ((gR F72 a0 0 0).bind fun q76 => (letH (va_up F72 (n + 51) (.inr (1, [.null, .null, .int 0, .int 0, .int 0, .int 0, .int 0, .int 0, .int 0, .int 0, .int 0, .int 0, .int 0, .int 0]))) fun F77 => ((g_X1_init (n + 52) F77 (n + 51)).bind fun F78 => ((sQ F78 q76 ((((((((((0 + 1) + 1) + 1) + 1) + 1) + 1) + 1) + 1) + 1) + 1) (n + 51)).bind fun F79 => ((gR F79 a0 0 0).bind fun q80 => ((aN F79 q80).bind fun x81 => (if x81 ≤ (((((((((((0 + 1) + 1) + 1) + 1) + 1) + 1) + 1) + 1) + 1) + 1) + 1) then none else ((gR F79 a0 0 0).bind fun q83 => (letH (va_up F79 (n + 56) (.inr (1, [.null, .null, .int 0, .int 0, .int 0, .int 0, .int 0, .int 0, .int 0, .int 0, .int 0, .int 0, .int 0, .int 0]))) fun F84 => ((g_X1_init (n + 57) F84 (n + 56)).bind fun F85 => ((sQ F85 q83 (((((((((((0 + 1) + 1) + 1) + 1) + 1) + 1) + 1) + 1) + 1) + 1) + 1) (n + 56)).bind fun F86 => ((gR F86 a0 0 0).bind fun q87 => ((aN F86 q87).bind fun x88 => (if x88 ≤ ((((((((((((0 + 1) + 1) + 1) + 1) + 1) + 1) + 1) + 1) + 1) + 1) + 1) + 1) then none else ((gR F86 a0 0 0).bind fun q90 => (letH (va_up F86 (n + 61) (.inr (1, [.null, .null, .int 0, .int 0, .int 0, .int 0, .int 0, .int 0, .int 0, .int 0, .int 0, .int 0, .int 0, .int 0]))) fun F91 => ((g_X1_init (n + 62) F91 (n + 61)).bind fun F92 => ((sQ F92 q90 ((((((((((((0 + 1) + 1) + 1) + 1) + 1) + 1) + 1) + 1) + 1) + 1) + 1) + 1) (n + 61)).bind fun F93 => ((gR F93 a0 0 0).bind fun q94 => ((aN F93 q94).bind fun x95 => (if x95 ≤ (((((((((((((0 + 1) + 1) + 1) + 1) + 1) + 1) + 1) + 1) + 1) + 1) + 1) + 1) + 1) then none else ((gR F93 a0 0 0).bind fun q97 => (letH (va_up F93 (n + 66) (.inr (1, [.null, .null, .int 0, .int 0, .int 0, .int 0, .int 0, .int 0, .int 0, .int 0, .int 0, .int 0, .int 0, .int 0]))) fun F98 => ((g_X1_init (n + 67) F98 (n + 66)).bind fun F99 => ((sQ F99 q97 (((((((((((((0 + 1) + 1) + 1) + 1) + 1) + 1) + 1) + 1) + 1) + 1) + 1) + 1) + 1) (n + 66)).bind fun F100 => ((gR F100 a0 0 0).bind fun q101 => ((aN F100 q101).bind fun x102 => (if x102 ≤ ((((((((((((((0 + 1) + 1) + 1) + 1) + 1) + 1) + 1) + 1) + 1) + 1) + 1) + 1) + 1) + 1) then ((pV F100 a0 0 1 (.int 0)).bind fun F104 => some F104) else none)))))))))))))))))))))))))))))))))))))))))))))))))))))))))))))))))))))))))))))))))))))))))))))))))))))))
set_option maxHeartbeats 4000000 in
set_option maxRecDepth 100000 in
theorem bl_X0_init {X : Cx} {n : Nat} (hn : X.2.2.2.2.1 = n) {F' : Hp} (hX : Md X cX0_init RX0 2 (rmk 3 71 630) none true none F') (F : Hp) (a0 : Nat) (h : g_X0_init n F a0 = some F') : PW X 0 0 F 0 [(0, .ref a0)] [] := by
  have hO := hX.1
  unfold g_X0_init at h
  refine pw_aload_n hO dX0_init_0 0 rfl ?_
  refine pw_obj hO dX0_init_1 ol_X0_3 (Nat.le_of_ble_eq_true rfl) (Nat.le_of_ble_eq_true rfl) (Nat.le_of_ble_eq_true rfl) ?_
  refine pw_aload_n hO dX0_init_4 0 rfl ?_
  refine pw_bipush hO dX0_init_5 (v := 14) (by decide) ?_
  refine pw_newq hO hn dX0_init_7 cq_X0_9 14 n 1 14 (by decide) (by decide) (Nat.le_of_ble_eq_true rfl) rfl rfl rfl ⟨Nat.le_of_ble_eq_true rfl, Nat.le_of_ble_eq_true rfl⟩ ?_
  obtain ⟨F1, eF1, h⟩ := letH_spec h
  rw [← eF1]
  refine pw_putF hO hX.2 dX0_init_10 fpf_X0_11 (fun _ => rfl) (fun _ => rfl) h (fun F2 h => ?_)
  refine pw_iconst hO dX0_init_13 (v := 0) (by decide) ?_
  refine pw_istore_n hO [(1, .int 0), (0, .ref a0)] dX0_init_14 (by decide) rfl ?_
  refine pw_iload_n hO dX0_init_15 0 rfl ?_
  refine pw_aload_n hO dX0_init_16 1 rfl ?_
  refine pw_getR hO dX0_init_17 fl_X0_11 h (fun q3 h => ?_)
  refine pw_alen hO dX0_init_20 h (fun x4 h => ?_)
  refine pw_icmp_ge (tgt := 43) hO dX0_init_21 (by decide) h (fun c5 h => by cases h) (fun c5 h => ?_)
  refine pw_aload_n hO dX0_init_24 1 rfl ?_
  refine pw_getR hO dX0_init_25 fl_X0_11 h (fun q6 h => ?_)
  refine pw_iload_n hO dX0_init_28 0 rfl ?_
  refine pw_new hO hn dX0_init_29 cl_X0_9 (n + 1) 2 28 rfl rfl rfl ⟨Nat.le_of_ble_eq_true rfl, Nat.le_of_ble_eq_true rfl⟩ ?_
  obtain ⟨F7, eF7, h⟩ := letH_spec h
  rw [← eF7]
  refine pw_dup hO dX0_init_32 rfl ?_
  refine pw_runI (st := [.ref (n + 1), .int 0, .ref q6]) (d := 2) (K := 4) (S := 30) hO hn dX0_init_33 il_X0_17 h (n + 2) 6 58 rfl rfl rfl (fun F1 hg => ct_X1_init hg) ⟨Nat.le_of_ble_eq_true rfl, Nat.le_of_ble_eq_true rfl⟩ ⟨Nat.le_of_ble_eq_true rfl, Nat.le_of_ble_eq_true rfl⟩ (Nat.le_of_ble_eq_true rfl) (fun F8 h => ?_)
  refine pw_aast hO dX0_init_36 h (fun F9 h => ?_)
  refine pw_iinc hO [(1, .int (0 + 1)), (0, .ref a0)] dX0_init_37 0 rfl rfl (by decide) rfl ?_
  refine pw_goto (tgt := 15) hO dX0_init_40 (by decide) ?_
  refine pw_iload_n hO dX0_init_15 0 rfl ?_
  refine pw_aload_n hO dX0_init_16 1 rfl ?_
  refine pw_getR hO dX0_init_17 fl_X0_11 h (fun q10 h => ?_)
  refine pw_alen hO dX0_init_20 h (fun x11 h => ?_)
  refine pw_icmp_ge (tgt := 43) hO dX0_init_21 (by decide) h (fun c12 h => by cases h) (fun c12 h => ?_)
  refine pw_aload_n hO dX0_init_24 1 rfl ?_
  refine pw_getR hO dX0_init_25 fl_X0_11 h (fun q13 h => ?_)
  refine pw_iload_n hO dX0_init_28 0 rfl ?_
  refine pw_new hO hn dX0_init_29 cl_X0_9 (n + 6) 7 72 rfl rfl rfl ⟨Nat.le_of_ble_eq_true rfl, Nat.le_of_ble_eq_true rfl⟩ ?_
  obtain ⟨F14, eF14, h⟩ := letH_spec h
  rw [← eF14]
  refine pw_dup hO dX0_init_32 rfl ?_
  refine pw_runI (st := [.ref (n + 6), .int (0 + 1), .ref q13]) (d := 2) (K := 4) (S := 30) hO hn dX0_init_33 il_X0_17 h (n + 7) 11 102 rfl rfl rfl (fun F1 hg => ct_X1_init hg) ⟨Nat.le_of_ble_eq_true rfl, Nat.le_of_ble_eq_true rfl⟩ ⟨Nat.le_of_ble_eq_true rfl, Nat.le_of_ble_eq_true rfl⟩ (Nat.le_of_ble_eq_true rfl) (fun F15 h => ?_)
  refine pw_aast hO dX0_init_36 h (fun F16 h => ?_)
  refine pw_iinc hO [(1, .int ((0 + 1) + 1)), (0, .ref a0)] dX0_init_37 0 rfl rfl (by decide) rfl ?_
  refine pw_goto (tgt := 15) hO dX0_init_40 (by decide) ?_
  refine pw_iload_n hO dX0_init_15 0 rfl ?_
  refine pw_aload_n hO dX0_init_16 1 rfl ?_
  refine pw_getR hO dX0_init_17 fl_X0_11 h (fun q17 h => ?_)
  refine pw_alen hO dX0_init_20 h (fun x18 h => ?_)
  refine pw_icmp_ge (tgt := 43) hO dX0_init_21 (by decide) h (fun c19 h => by cases h) (fun c19 h => ?_)
  refine pw_aload_n hO dX0_init_24 1 rfl ?_
  refine pw_getR hO dX0_init_25 fl_X0_11 h (fun q20 h => ?_)
  refine pw_iload_n hO dX0_init_28 0 rfl ?_
  refine pw_new hO hn dX0_init_29 cl_X0_9 (n + 11) 12 116 rfl rfl rfl ⟨Nat.le_of_ble_eq_true rfl, Nat.le_of_ble_eq_true rfl⟩ ?_
  obtain ⟨F21, eF21, h⟩ := letH_spec h
  rw [← eF21]
  refine pw_dup hO dX0_init_32 rfl ?_
  refine pw_runI (st := [.ref (n + 11), .int ((0 + 1) + 1), .ref q20]) (d := 2) (K := 4) (S := 30) hO hn dX0_init_33 il_X0_17 h (n + 12) 16 146 rfl rfl rfl (fun F1 hg => ct_X1_init hg) ⟨Nat.le_of_ble_eq_true rfl, Nat.le_of_ble_eq_true rfl⟩ ⟨Nat.le_of_ble_eq_true rfl, Nat.le_of_ble_eq_true rfl⟩ (Nat.le_of_ble_eq_true rfl) (fun F22 h => ?_)
  refine pw_aast hO dX0_init_36 h (fun F23 h => ?_)
  refine pw_iinc hO [(1, .int (((0 + 1) + 1) + 1)), (0, .ref a0)] dX0_init_37 0 rfl rfl (by decide) rfl ?_
  refine pw_goto (tgt := 15) hO dX0_init_40 (by decide) ?_
  refine pw_iload_n hO dX0_init_15 0 rfl ?_
  refine pw_aload_n hO dX0_init_16 1 rfl ?_
  refine pw_getR hO dX0_init_17 fl_X0_11 h (fun q24 h => ?_)
  refine pw_alen hO dX0_init_20 h (fun x25 h => ?_)
  refine pw_icmp_ge (tgt := 43) hO dX0_init_21 (by decide) h (fun c26 h => by cases h) (fun c26 h => ?_)
  refine pw_aload_n hO dX0_init_24 1 rfl ?_
  refine pw_getR hO dX0_init_25 fl_X0_11 h (fun q27 h => ?_)
  refine pw_iload_n hO dX0_init_28 0 rfl ?_
  refine pw_new hO hn dX0_init_29 cl_X0_9 (n + 16) 17 160 rfl rfl rfl ⟨Nat.le_of_ble_eq_true rfl, Nat.le_of_ble_eq_true rfl⟩ ?_
  obtain ⟨F28, eF28, h⟩ := letH_spec h
  rw [← eF28]
  refine pw_dup hO dX0_init_32 rfl ?_
  refine pw_runI (st := [.ref (n + 16), .int (((0 + 1) + 1) + 1), .ref q27]) (d := 2) (K := 4) (S := 30) hO hn dX0_init_33 il_X0_17 h (n + 17) 21 190 rfl rfl rfl (fun F1 hg => ct_X1_init hg) ⟨Nat.le_of_ble_eq_true rfl, Nat.le_of_ble_eq_true rfl⟩ ⟨Nat.le_of_ble_eq_true rfl, Nat.le_of_ble_eq_true rfl⟩ (Nat.le_of_ble_eq_true rfl) (fun F29 h => ?_)
  refine pw_aast hO dX0_init_36 h (fun F30 h => ?_)
  refine pw_iinc hO [(1, .int ((((0 + 1) + 1) + 1) + 1)), (0, .ref a0)] dX0_init_37 0 rfl rfl (by decide) rfl ?_
  refine pw_goto (tgt := 15) hO dX0_init_40 (by decide) ?_
  refine pw_iload_n hO dX0_init_15 0 rfl ?_
  refine pw_aload_n hO dX0_init_16 1 rfl ?_
  refine pw_getR hO dX0_init_17 fl_X0_11 h (fun q31 h => ?_)
  refine pw_alen hO dX0_init_20 h (fun x32 h => ?_)
  refine pw_icmp_ge (tgt := 43) hO dX0_init_21 (by decide) h (fun c33 h => by cases h) (fun c33 h => ?_)
  refine pw_aload_n hO dX0_init_24 1 rfl ?_
  refine pw_getR hO dX0_init_25 fl_X0_11 h (fun q34 h => ?_)
  refine pw_iload_n hO dX0_init_28 0 rfl ?_
  refine pw_new hO hn dX0_init_29 cl_X0_9 (n + 21) 22 204 rfl rfl rfl ⟨Nat.le_of_ble_eq_true rfl, Nat.le_of_ble_eq_true rfl⟩ ?_
  obtain ⟨F35, eF35, h⟩ := letH_spec h
  rw [← eF35]
  refine pw_dup hO dX0_init_32 rfl ?_
  refine pw_runI (st := [.ref (n + 21), .int ((((0 + 1) + 1) + 1) + 1), .ref q34]) (d := 2) (K := 4) (S := 30) hO hn dX0_init_33 il_X0_17 h (n + 22) 26 234 rfl rfl rfl (fun F1 hg => ct_X1_init hg) ⟨Nat.le_of_ble_eq_true rfl, Nat.le_of_ble_eq_true rfl⟩ ⟨Nat.le_of_ble_eq_true rfl, Nat.le_of_ble_eq_true rfl⟩ (Nat.le_of_ble_eq_true rfl) (fun F36 h => ?_)
  refine pw_aast hO dX0_init_36 h (fun F37 h => ?_)
  refine pw_iinc hO [(1, .int (((((0 + 1) + 1) + 1) + 1) + 1)), (0, .ref a0)] dX0_init_37 0 rfl rfl (by decide) rfl ?_
  refine pw_goto (tgt := 15) hO dX0_init_40 (by decide) ?_
  refine pw_iload_n hO dX0_init_15 0 rfl ?_
  refine pw_aload_n hO dX0_init_16 1 rfl ?_
  refine pw_getR hO dX0_init_17 fl_X0_11 h (fun q38 h => ?_)
  refine pw_alen hO dX0_init_20 h (fun x39 h => ?_)
  refine pw_icmp_ge (tgt := 43) hO dX0_init_21 (by decide) h (fun c40 h => by cases h) (fun c40 h => ?_)
  refine pw_aload_n hO dX0_init_24 1 rfl ?_
  refine pw_getR hO dX0_init_25 fl_X0_11 h (fun q41 h => ?_)
  refine pw_iload_n hO dX0_init_28 0 rfl ?_
  refine pw_new hO hn dX0_init_29 cl_X0_9 (n + 26) 27 248 rfl rfl rfl ⟨Nat.le_of_ble_eq_true rfl, Nat.le_of_ble_eq_true rfl⟩ ?_
  obtain ⟨F42, eF42, h⟩ := letH_spec h
  rw [← eF42]
  refine pw_dup hO dX0_init_32 rfl ?_
  refine pw_runI (st := [.ref (n + 26), .int (((((0 + 1) + 1) + 1) + 1) + 1), .ref q41]) (d := 2) (K := 4) (S := 30) hO hn dX0_init_33 il_X0_17 h (n + 27) 31 278 rfl rfl rfl (fun F1 hg => ct_X1_init hg) ⟨Nat.le_of_ble_eq_true rfl, Nat.le_of_ble_eq_true rfl⟩ ⟨Nat.le_of_ble_eq_true rfl, Nat.le_of_ble_eq_true rfl⟩ (Nat.le_of_ble_eq_true rfl) (fun F43 h => ?_)
  refine pw_aast hO dX0_init_36 h (fun F44 h => ?_)
  refine pw_iinc hO [(1, .int ((((((0 + 1) + 1) + 1) + 1) + 1) + 1)), (0, .ref a0)] dX0_init_37 0 rfl rfl (by decide) rfl ?_
  refine pw_goto (tgt := 15) hO dX0_init_40 (by decide) ?_
  refine pw_iload_n hO dX0_init_15 0 rfl ?_
  refine pw_aload_n hO dX0_init_16 1 rfl ?_
  refine pw_getR hO dX0_init_17 fl_X0_11 h (fun q45 h => ?_)
  refine pw_alen hO dX0_init_20 h (fun x46 h => ?_)
  refine pw_icmp_ge (tgt := 43) hO dX0_init_21 (by decide) h (fun c47 h => by cases h) (fun c47 h => ?_)
  refine pw_aload_n hO dX0_init_24 1 rfl ?_
  refine pw_getR hO dX0_init_25 fl_X0_11 h (fun q48 h => ?_)
  refine pw_iload_n hO dX0_init_28 0 rfl ?_
  refine pw_new hO hn dX0_init_29 cl_X0_9 (n + 31) 32 292 rfl rfl rfl ⟨Nat.le_of_ble_eq_true rfl, Nat.le_of_ble_eq_true rfl⟩ ?_
  obtain ⟨F49, eF49, h⟩ := letH_spec h
  rw [← eF49]
  refine pw_dup hO dX0_init_32 rfl ?_
  refine pw_runI (st := [.ref (n + 31), .int ((((((0 + 1) + 1) + 1) + 1) + 1) + 1), .ref q48]) (d := 2) (K := 4) (S := 30) hO hn dX0_init_33 il_X0_17 h (n + 32) 36 322 rfl rfl rfl (fun F1 hg => ct_X1_init hg) ⟨Nat.le_of_ble_eq_true rfl, Nat.le_of_ble_eq_true rfl⟩ ⟨Nat.le_of_ble_eq_true rfl, Nat.le_of_ble_eq_true rfl⟩ (Nat.le_of_ble_eq_true rfl) (fun F50 h => ?_)
  refine pw_aast hO dX0_init_36 h (fun F51 h => ?_)
  refine pw_iinc hO [(1, .int (((((((0 + 1) + 1) + 1) + 1) + 1) + 1) + 1)), (0, .ref a0)] dX0_init_37 0 rfl rfl (by decide) rfl ?_
  refine pw_goto (tgt := 15) hO dX0_init_40 (by decide) ?_
  refine pw_iload_n hO dX0_init_15 0 rfl ?_
  refine pw_aload_n hO dX0_init_16 1 rfl ?_
  refine pw_getR hO dX0_init_17 fl_X0_11 h (fun q52 h => ?_)
  refine pw_alen hO dX0_init_20 h (fun x53 h => ?_)
  refine pw_icmp_ge (tgt := 43) hO dX0_init_21 (by decide) h (fun c54 h => by cases h) (fun c54 h => ?_)
  refine pw_aload_n hO dX0_init_24 1 rfl ?_
  refine pw_getR hO dX0_init_25 fl_X0_11 h (fun q55 h => ?_)
  refine pw_iload_n hO dX0_init_28 0 rfl ?_
  refine pw_new hO hn dX0_init_29 cl_X0_9 (n + 36) 37 336 rfl rfl rfl ⟨Nat.le_of_ble_eq_true rfl, Nat.le_of_ble_eq_true rfl⟩ ?_
  obtain ⟨F56, eF56, h⟩ := letH_spec h
  rw [← eF56]
  refine pw_dup hO dX0_init_32 rfl ?_
  refine pw_runI (st := [.ref (n + 36), .int (((((((0 + 1) + 1) + 1) + 1) + 1) + 1) + 1), .ref q55]) (d := 2) (K := 4) (S := 30) hO hn dX0_init_33 il_X0_17 h (n + 37) 41 366 rfl rfl rfl (fun F1 hg => ct_X1_init hg) ⟨Nat.le_of_ble_eq_true rfl, Nat.le_of_ble_eq_true rfl⟩ ⟨Nat.le_of_ble_eq_true rfl, Nat.le_of_ble_eq_true rfl⟩ (Nat.le_of_ble_eq_true rfl) (fun F57 h => ?_)
  refine pw_aast hO dX0_init_36 h (fun F58 h => ?_)
  refine pw_iinc hO [(1, .int ((((((((0 + 1) + 1) + 1) + 1) + 1) + 1) + 1) + 1)), (0, .ref a0)] dX0_init_37 0 rfl rfl (by decide) rfl ?_
  refine pw_goto (tgt := 15) hO dX0_init_40 (by decide) ?_
  refine pw_iload_n hO dX0_init_15 0 rfl ?_
  refine pw_aload_n hO dX0_init_16 1 rfl ?_
  refine pw_getR hO dX0_init_17 fl_X0_11 h (fun q59 h => ?_)
  refine pw_alen hO dX0_init_20 h (fun x60 h => ?_)
  refine pw_icmp_ge (tgt := 43) hO dX0_init_21 (by decide) h (fun c61 h => by cases h) (fun c61 h => ?_)
  refine pw_aload_n hO dX0_init_24 1 rfl ?_
  refine pw_getR hO dX0_init_25 fl_X0_11 h (fun q62 h => ?_)
  refine pw_iload_n hO dX0_init_28 0 rfl ?_
  refine pw_new hO hn dX0_init_29 cl_X0_9 (n + 41) 42 380 rfl rfl rfl ⟨Nat.le_of_ble_eq_true rfl, Nat.le_of_ble_eq_true rfl⟩ ?_
  obtain ⟨F63, eF63, h⟩ := letH_spec h
  rw [← eF63]
  refine pw_dup hO dX0_init_32 rfl ?_
  refine pw_runI (st := [.ref (n + 41), .int ((((((((0 + 1) + 1) + 1) + 1) + 1) + 1) + 1) + 1), .ref q62]) (d := 2) (K := 4) (S := 30) hO hn dX0_init_33 il_X0_17 h (n + 42) 46 410 rfl rfl rfl (fun F1 hg => ct_X1_init hg) ⟨Nat.le_of_ble_eq_true rfl, Nat.le_of_ble_eq_true rfl⟩ ⟨Nat.le_of_ble_eq_true rfl, Nat.le_of_ble_eq_true rfl⟩ (Nat.le_of_ble_eq_true rfl) (fun F64 h => ?_)
  refine pw_aast hO dX0_init_36 h (fun F65 h => ?_)
  refine pw_iinc hO [(1, .int (((((((((0 + 1) + 1) + 1) + 1) + 1) + 1) + 1) + 1) + 1)), (0, .ref a0)] dX0_init_37 0 rfl rfl (by decide) rfl ?_
  refine pw_goto (tgt := 15) hO dX0_init_40 (by decide) ?_
  refine pw_iload_n hO dX0_init_15 0 rfl ?_
  refine pw_aload_n hO dX0_init_16 1 rfl ?_
  refine pw_getR hO dX0_init_17 fl_X0_11 h (fun q66 h => ?_)
  refine pw_alen hO dX0_init_20 h (fun x67 h => ?_)
  refine pw_icmp_ge (tgt := 43) hO dX0_init_21 (by decide) h (fun c68 h => by cases h) (fun c68 h => ?_)
  refine pw_aload_n hO dX0_init_24 1 rfl ?_
  refine pw_getR hO dX0_init_25 fl_X0_11 h (fun q69 h => ?_)
  refine pw_iload_n hO dX0_init_28 0 rfl ?_
  refine pw_new hO hn dX0_init_29 cl_X0_9 (n + 46) 47 424 rfl rfl rfl ⟨Nat.le_of_ble_eq_true rfl, Nat.le_of_ble_eq_true rfl⟩ ?_
  obtain ⟨F70, eF70, h⟩ := letH_spec h
  rw [← eF70]
  refine pw_dup hO dX0_init_32 rfl ?_
  refine pw_runI (st := [.ref (n + 46), .int (((((((((0 + 1) + 1) + 1) + 1) + 1) + 1) + 1) + 1) + 1), .ref q69]) (d := 2) (K := 4) (S := 30) hO hn dX0_init_33 il_X0_17 h (n + 47) 51 454 rfl rfl rfl (fun F1 hg => ct_X1_init hg) ⟨Nat.le_of_ble_eq_true rfl, Nat.le_of_ble_eq_true rfl⟩ ⟨Nat.le_of_ble_eq_true rfl, Nat.le_of_ble_eq_true rfl⟩ (Nat.le_of_ble_eq_true rfl) (fun F71 h => ?_)
  refine pw_aast hO dX0_init_36 h (fun F72 h => ?_)
  refine pw_iinc hO [(1, .int ((((((((((0 + 1) + 1) + 1) + 1) + 1) + 1) + 1) + 1) + 1) + 1)), (0, .ref a0)] dX0_init_37 0 rfl rfl (by decide) rfl ?_
  refine pw_goto (tgt := 15) hO dX0_init_40 (by decide) ?_
  refine pw_iload_n hO dX0_init_15 0 rfl ?_
  refine pw_aload_n hO dX0_init_16 1 rfl ?_
  refine pw_getR hO dX0_init_17 fl_X0_11 h (fun q73 h => ?_)
  refine pw_alen hO dX0_init_20 h (fun x74 h => ?_)
  refine pw_icmp_ge (tgt := 43) hO dX0_init_21 (by decide) h (fun c75 h => by cases h) (fun c75 h => ?_)
  refine pw_aload_n hO dX0_init_24 1 rfl ?_
  refine pw_getR hO dX0_init_25 fl_X0_11 h (fun q76 h => ?_)
  refine pw_iload_n hO dX0_init_28 0 rfl ?_
  refine pw_new hO hn dX0_init_29 cl_X0_9 (n + 51) 52 468 rfl rfl rfl ⟨Nat.le_of_ble_eq_true rfl, Nat.le_of_ble_eq_true rfl⟩ ?_
  obtain ⟨F77, eF77, h⟩ := letH_spec h
  rw [← eF77]
  refine pw_dup hO dX0_init_32 rfl ?_
  refine pw_runI (st := [.ref (n + 51), .int ((((((((((0 + 1) + 1) + 1) + 1) + 1) + 1) + 1) + 1) + 1) + 1), .ref q76]) (d := 2) (K := 4) (S := 30) hO hn dX0_init_33 il_X0_17 h (n + 52) 56 498 rfl rfl rfl (fun F1 hg => ct_X1_init hg) ⟨Nat.le_of_ble_eq_true rfl, Nat.le_of_ble_eq_true rfl⟩ ⟨Nat.le_of_ble_eq_true rfl, Nat.le_of_ble_eq_true rfl⟩ (Nat.le_of_ble_eq_true rfl) (fun F78 h => ?_)
  refine pw_aast hO dX0_init_36 h (fun F79 h => ?_)
  refine pw_iinc hO [(1, .int (((((((((((0 + 1) + 1) + 1) + 1) + 1) + 1) + 1) + 1) + 1) + 1) + 1)), (0, .ref a0)] dX0_init_37 0 rfl rfl (by decide) rfl ?_
  refine pw_goto (tgt := 15) hO dX0_init_40 (by decide) ?_
  refine pw_iload_n hO dX0_init_15 0 rfl ?_
  refine pw_aload_n hO dX0_init_16 1 rfl ?_
  refine pw_getR hO dX0_init_17 fl_X0_11 h (fun q80 h => ?_)
  refine pw_alen hO dX0_init_20 h (fun x81 h => ?_)
  refine pw_icmp_ge (tgt := 43) hO dX0_init_21 (by decide) h (fun c82 h => by cases h) (fun c82 h => ?_)
  refine pw_aload_n hO dX0_init_24 1 rfl ?_
  refine pw_getR hO dX0_init_25 fl_X0_11 h (fun q83 h => ?_)
  refine pw_iload_n hO dX0_init_28 0 rfl ?_
  refine pw_new hO hn dX0_init_29 cl_X0_9 (n + 56) 57 512 rfl rfl rfl ⟨Nat.le_of_ble_eq_true rfl, Nat.le_of_ble_eq_true rfl⟩ ?_
  obtain ⟨F84, eF84, h⟩ := letH_spec h
  rw [← eF84]
  refine pw_dup hO dX0_init_32 rfl ?_
  refine pw_runI (st := [.ref (n + 56), .int (((((((((((0 + 1) + 1) + 1) + 1) + 1) + 1) + 1) + 1) + 1) + 1) + 1), .ref q83]) (d := 2) (K := 4) (S := 30) hO hn dX0_init_33 il_X0_17 h (n + 57) 61 542 rfl rfl rfl (fun F1 hg => ct_X1_init hg) ⟨Nat.le_of_ble_eq_true rfl, Nat.le_of_ble_eq_true rfl⟩ ⟨Nat.le_of_ble_eq_true rfl, Nat.le_of_ble_eq_true rfl⟩ (Nat.le_of_ble_eq_true rfl) (fun F85 h => ?_)
  refine pw_aast hO dX0_init_36 h (fun F86 h => ?_)
  refine pw_iinc hO [(1, .int ((((((((((((0 + 1) + 1) + 1) + 1) + 1) + 1) + 1) + 1) + 1) + 1) + 1) + 1)), (0, .ref a0)] dX0_init_37 0 rfl rfl (by decide) rfl ?_
  refine pw_goto (tgt := 15) hO dX0_init_40 (by decide) ?_
  refine pw_iload_n hO dX0_init_15 0 rfl ?_
  refine pw_aload_n hO dX0_init_16 1 rfl ?_
  refine pw_getR hO dX0_init_17 fl_X0_11 h (fun q87 h => ?_)
  refine pw_alen hO dX0_init_20 h (fun x88 h => ?_)
  refine pw_icmp_ge (tgt := 43) hO dX0_init_21 (by decide) h (fun c89 h => by cases h) (fun c89 h => ?_)
  refine pw_aload_n hO dX0_init_24 1 rfl ?_
  refine pw_getR hO dX0_init_25 fl_X0_11 h (fun q90 h => ?_)
  refine pw_iload_n hO dX0_init_28 0 rfl ?_
  refine pw_new hO hn dX0_init_29 cl_X0_9 (n + 61) 62 556 rfl rfl rfl ⟨Nat.le_of_ble_eq_true rfl, Nat.le_of_ble_eq_true rfl⟩ ?_
  obtain ⟨F91, eF91, h⟩ := letH_spec h
  rw [← eF91]
  refine pw_dup hO dX0_init_32 rfl ?_
  refine pw_runI (st := [.ref (n + 61), .int ((((((((((((0 + 1) + 1) + 1) + 1) + 1) + 1) + 1) + 1) + 1) + 1) + 1) + 1), .ref q90]) (d := 2) (K := 4) (S := 30) hO hn dX0_init_33 il_X0_17 h (n + 62) 66 586 rfl rfl rfl (fun F1 hg => ct_X1_init hg) ⟨Nat.le_of_ble_eq_true rfl, Nat.le_of_ble_eq_true rfl⟩ ⟨Nat.le_of_ble_eq_true rfl, Nat.le_of_ble_eq_true rfl⟩ (Nat.le_of_ble_eq_true rfl) (fun F92 h => ?_)
  refine pw_aast hO dX0_init_36 h (fun F93 h => ?_)
  refine pw_iinc hO [(1, .int (((((((((((((0 + 1) + 1) + 1) + 1) + 1) + 1) + 1) + 1) + 1) + 1) + 1) + 1) + 1)), (0, .ref a0)] dX0_init_37 0 rfl rfl (by decide) rfl ?_
  refine pw_goto (tgt := 15) hO dX0_init_40 (by decide) ?_
  refine pw_iload_n hO dX0_init_15 0 rfl ?_
  refine pw_aload_n hO dX0_init_16 1 rfl ?_
  refine pw_getR hO dX0_init_17 fl_X0_11 h (fun q94 h => ?_)
  refine pw_alen hO dX0_init_20 h (fun x95 h => ?_)
  refine pw_icmp_ge (tgt := 43) hO dX0_init_21 (by decide) h (fun c96 h => by cases h) (fun c96 h => ?_)
  refine pw_aload_n hO dX0_init_24 1 rfl ?_
  refine pw_getR hO dX0_init_25 fl_X0_11 h (fun q97 h => ?_)
  refine pw_iload_n hO dX0_init_28 0 rfl ?_
  refine pw_new hO hn dX0_init_29 cl_X0_9 (n + 66) 67 600 rfl rfl rfl ⟨Nat.le_of_ble_eq_true rfl, Nat.le_of_ble_eq_true rfl⟩ ?_
  obtain ⟨F98, eF98, h⟩ := letH_spec h
  rw [← eF98]
  refine pw_dup hO dX0_init_32 rfl ?_
  refine pw_runI (st := [.ref (n + 66), .int (((((((((((((0 + 1) + 1) + 1) + 1) + 1) + 1) + 1) + 1) + 1) + 1) + 1) + 1) + 1), .ref q97]) (d := 2) (K := 4) (S := 30) hO hn dX0_init_33 il_X0_17 h (n + 67) 71 630 rfl rfl rfl (fun F1 hg => ct_X1_init hg) ⟨Nat.le_of_ble_eq_true rfl, Nat.le_of_ble_eq_true rfl⟩ ⟨Nat.le_of_ble_eq_true rfl, Nat.le_of_ble_eq_true rfl⟩ (Nat.le_of_ble_eq_true rfl) (fun F99 h => ?_)
  refine pw_aast hO dX0_init_36 h (fun F100 h => ?_)
  refine pw_iinc hO [(1, .int ((((((((((((((0 + 1) + 1) + 1) + 1) + 1) + 1) + 1) + 1) + 1) + 1) + 1) + 1) + 1) + 1)), (0, .ref a0)] dX0_init_37 0 rfl rfl (by decide) rfl ?_
  refine pw_goto (tgt := 15) hO dX0_init_40 (by decide) ?_
  refine pw_iload_n hO dX0_init_15 0 rfl ?_
  refine pw_aload_n hO dX0_init_16 1 rfl ?_
  refine pw_getR hO dX0_init_17 fl_X0_11 h (fun q101 h => ?_)
  refine pw_alen hO dX0_init_20 h (fun x102 h => ?_)
  refine pw_icmp_ge (tgt := 43) hO dX0_init_21 (by decide) h (fun c103 h => ?_) (fun c103 h => by cases h)
  refine pw_aload_n hO dX0_init_43 1 rfl ?_
  refine pw_iconst hO dX0_init_44 (v := 0) (by decide) ?_
  refine pw_putI hO dX0_init_45 fp_X0_18 h (fun F104 h => ?_)
  exact pw_vret hO hX.2 dX0_init_48 h
theorem ct_X0_init {n : Nat} {F : Hp} {a0 : Nat} {F' : Hp} (h : g_X0_init n F a0 = some F') : CT yX0_init cX0_init 2 none (rmk 3 71 630) n F [.ref a0] none F' :=
  ct_intro (own := RX0) (nm := true) (by decide) rfl (fun _ => rfl) (Nat.le_of_ble_eq_true rfl) (fun X hn hX => bl_X0_init hn hX F a0 h)
def g_X2_init (n : Nat) (F : Hp) (a0 : Nat) : Option Hp := (letH (va_up F n (.inr (1, [.null, .null, .int 0, .int 0, .int 0, .int 0, .int 0, .int 0, .int 0, .int 0, .int 0, .int 0, .int 0, .int 0]))) fun F1 => ((g_X1_init (n + 1) F1 n).bind fun F2 => ((pV F2 a0 2 0 (.ref n)).bind fun F3 => (letH (va_up F3 (n + 5) (.inl (0, 71, .inl (fun _ => 0)))) fun F4 => ((pV F4 a0 2 1 (.ref (n + 5))).bind fun F5 => ((pV F5 a0 2 2 (.int 0)).bind fun F6 => some F6))))))
set_option maxHeartbeats 4000000 in
set_option maxRecDepth 100000 in
theorem bl_X2_init {X : Cx} {n : Nat} (hn : X.2.2.2.2.1 = n) {F' : Hp} (hX : Md X cX2_init RX2 1 (rmk 3 6 115) none true none F') (F : Hp) (a0 : Nat) (h : g_X2_init n F a0 = some F') : PW X 0 0 F 0 [(0, .ref a0)] [] := by
  have hO := hX.1
  unfold g_X2_init at h
  refine pw_aload_n hO dX2_init_0 0 rfl ?_
  refine pw_obj hO dX2_init_1 ol_X2_3 (Nat.le_of_ble_eq_true rfl) (Nat.le_of_ble_eq_true rfl) (Nat.le_of_ble_eq_true rfl) ?_
  refine pw_aload_n hO dX2_init_4 0 rfl ?_
  refine pw_new hO hn dX2_init_5 cl_X2_9 n 1 14 rfl rfl rfl ⟨Nat.le_of_ble_eq_true rfl, Nat.le_of_ble_eq_true rfl⟩ ?_
  obtain ⟨F1, eF1, h⟩ := letH_spec h
  rw [← eF1]
  refine pw_dup hO dX2_init_8 rfl ?_
  refine pw_runI (st := [.ref n, .ref a0]) (d := 2) (K := 4) (S := 30) hO hn dX2_init_9 il_X2_11 h (n + 1) 5 44 rfl rfl rfl (fun F1 hg => ct_X1_init hg) ⟨Nat.le_of_ble_eq_true rfl, Nat.le_of_ble_eq_true rfl⟩ ⟨Nat.le_of_ble_eq_true rfl, Nat.le_of_ble_eq_true rfl⟩ (Nat.le_of_ble_eq_true rfl) (fun F2 h => ?_)
  refine pw_putF hO hX.2 dX2_init_12 fpf_X2_12 (fun _ => rfl) (fun _ => rfl) h (fun F3 h => ?_)
  refine pw_aload_n hO dX2_init_15 0 rfl ?_
  refine pw_bipush hO dX2_init_16 (v := 71) (by decide) ?_
  refine pw_newa hO hn dX2_init_18 ac_int 71 (n + 5) 6 115 (by decide) (by decide) (Nat.le_of_ble_eq_true rfl) rfl rfl rfl ⟨Nat.le_of_ble_eq_true rfl, Nat.le_of_ble_eq_true rfl⟩ ?_
  obtain ⟨F4, eF4, h⟩ := letH_spec h
  rw [← eF4]
  refine pw_putF hO hX.2 dX2_init_20 fpf_X2_18 (fun _ => rfl) (fun _ => rfl) h (fun F5 h => ?_)
  refine pw_aload_n hO dX2_init_23 0 rfl ?_
  refine pw_iconst hO dX2_init_24 (v := 0) (by decide) ?_
  refine pw_putI hO dX2_init_25 fp_X2_22 h (fun F6 h => ?_)
  exact pw_vret hO hX.2 dX2_init_28 h
theorem ct_X2_init {n : Nat} {F : Hp} {a0 : Nat} {F' : Hp} (h : g_X2_init n F a0 = some F') : CT yX2_init cX2_init 1 none (rmk 3 6 115) n F [.ref a0] none F' :=
  ct_intro (own := RX2) (nm := true) (by decide) rfl (fun _ => rfl) (Nat.le_of_ble_eq_true rfl) (fun X hn hX => bl_X2_init hn hX F a0 h)
def g_X4_init (n : Nat) (F : Hp) (a0 : Nat) : Option Hp := (letH (va_up F n (.inl (0, 6, .inl (fun _ => 0)))) fun F1 => ((pV F1 a0 4 0 (.ref n)).bind fun F2 => (letH (va_up F2 (n + 1) (.inl (0, 6, .inl (fun _ => 0)))) fun F3 => ((pV F3 a0 4 1 (.ref (n + 1))).bind fun F4 => ((pV F4 a0 4 2 (.int 0)).bind fun F5 => some F5)))))
set_option maxHeartbeats 4000000 in
set_option maxRecDepth 100000 in
theorem bl_X4_init {X : Cx} {n : Nat} (hn : X.2.2.2.2.1 = n) {F' : Hp} (hX : Md X cX4_init RX4 1 (rmk 1 2 12) none true none F') (F : Hp) (a0 : Nat) (h : g_X4_init n F a0 = some F') : PW X 0 0 F 0 [(0, .ref a0)] [] := by
  have hO := hX.1
  unfold g_X4_init at h
  refine pw_aload_n hO dX4_init_0 0 rfl ?_
  refine pw_obj hO dX4_init_1 ol_X4_3 (Nat.le_of_ble_eq_true rfl) (Nat.le_of_ble_eq_true rfl) (Nat.le_of_ble_eq_true rfl) ?_
  refine pw_aload_n hO dX4_init_4 0 rfl ?_
  refine pw_bipush hO dX4_init_5 (v := 6) (by decide) ?_
  refine pw_newa hO hn dX4_init_7 ac_int 6 n 1 6 (by decide) (by decide) (Nat.le_of_ble_eq_true rfl) rfl rfl rfl ⟨Nat.le_of_ble_eq_true rfl, Nat.le_of_ble_eq_true rfl⟩ ?_
  obtain ⟨F1, eF1, h⟩ := letH_spec h
  rw [← eF1]
  refine pw_putF hO hX.2 dX4_init_9 fpf_X4_9 (fun _ => rfl) (fun _ => rfl) h (fun F2 h => ?_)
  refine pw_aload_n hO dX4_init_12 0 rfl ?_
  refine pw_bipush hO dX4_init_13 (v := 6) (by decide) ?_
  refine pw_newa hO hn dX4_init_15 ac_int 6 (n + 1) 2 12 (by decide) (by decide) (Nat.le_of_ble_eq_true rfl) rfl rfl rfl ⟨Nat.le_of_ble_eq_true rfl, Nat.le_of_ble_eq_true rfl⟩ ?_
  obtain ⟨F3, eF3, h⟩ := letH_spec h
  rw [← eF3]
  refine pw_putF hO hX.2 dX4_init_17 fpf_X4_15 (fun _ => rfl) (fun _ => rfl) h (fun F4 h => ?_)
  refine pw_aload_n hO dX4_init_20 0 rfl ?_
  refine pw_iconst hO dX4_init_21 (v := 0) (by decide) ?_
  refine pw_putI hO dX4_init_22 fp_X4_18 h (fun F5 h => ?_)
  exact pw_vret hO hX.2 dX4_init_25 h
theorem ct_X4_init {n : Nat} {F : Hp} {a0 : Nat} {F' : Hp} (h : g_X4_init n F a0 = some F') : CT yX4_init cX4_init 1 none (rmk 1 2 12) n F [.ref a0] none F' :=
  ct_intro (own := RX4) (nm := true) (by decide) rfl (fun _ => rfl) (Nat.le_of_ble_eq_true rfl) (fun X hn hX => bl_X4_init hn hX F a0 h)
def g_X5_init (n : Nat) (F : Hp) (a0 : Nat) : Option Hp := (letH (va_up F n (.inr (1, [.null, .null, .int 0, .int 0, .int 0, .int 0, .int 0, .int 0, .int 0, .int 0, .int 0, .int 0, .int 0, .int 0]))) fun F1 => ((g_X1_init (n + 1) F1 n).bind fun F2 => ((pV F2 a0 5 0 (.ref n)).bind fun F3 => ((pZ F3 a0 5 1 0).bind fun F4 => some F4))))
set_option maxHeartbeats 4000000 in
set_option maxRecDepth 100000 in
theorem bl_X5_init {X : Cx} {n : Nat} (hn : X.2.2.2.2.1 = n) {F' : Hp} (hX : Md X cX5_init RX5 1 (rmk 3 5 44) none true none F') (F : Hp) (a0 : Nat) (h : g_X5_init n F a0 = some F') : PW X 0 0 F 0 [(0, .ref a0)] [] := by
  have hO := hX.1
  unfold g_X5_init at h
  refine pw_aload_n hO dX5_init_0 0 rfl ?_
  refine pw_obj hO dX5_init_1 ol_X5_1 (Nat.le_of_ble_eq_true rfl) (Nat.le_of_ble_eq_true rfl) (Nat.le_of_ble_eq_true rfl) ?_
  refine pw_aload_n hO dX5_init_4 0 rfl ?_
  refine pw_new hO hn dX5_init_5 cl_X5_7 n 1 14 rfl rfl rfl ⟨Nat.le_of_ble_eq_true rfl, Nat.le_of_ble_eq_true rfl⟩ ?_
  obtain ⟨F1, eF1, h⟩ := letH_spec h
  rw [← eF1]
  refine pw_dup hO dX5_init_8 rfl ?_
  refine pw_runI (st := [.ref n, .ref a0]) (d := 2) (K := 4) (S := 30) hO hn dX5_init_9 il_X5_9 h (n + 1) 5 44 rfl rfl rfl (fun F1 hg => ct_X1_init hg) ⟨Nat.le_of_ble_eq_true rfl, Nat.le_of_ble_eq_true rfl⟩ ⟨Nat.le_of_ble_eq_true rfl, Nat.le_of_ble_eq_true rfl⟩ (Nat.le_of_ble_eq_true rfl) (fun F2 h => ?_)
  refine pw_putF hO hX.2 dX5_init_12 fpf_X5_10 (fun _ => rfl) (fun _ => rfl) h (fun F3 h => ?_)
  refine pw_aload_n hO dX5_init_15 0 rfl ?_
  refine pw_iconst hO dX5_init_16 (v := 0) (by decide) ?_
  refine pw_putZ hO dX5_init_17 fp_X5_16 h (fun F4 h => ?_)
  exact pw_vret hO hX.2 dX5_init_20 h
theorem ct_X5_init {n : Nat} {F : Hp} {a0 : Nat} {F' : Hp} (h : g_X5_init n F a0 = some F') : CT yX5_init cX5_init 1 none (rmk 3 5 44) n F [.ref a0] none F' :=
  ct_intro (own := RX5) (nm := true) (by decide) rfl (fun _ => rfl) (Nat.le_of_ble_eq_true rfl) (fun X hn hX => bl_X5_init hn hX F a0 h)
def g_X6_init (n : Nat) (F : Hp) (a0 : Nat) : Option Hp := (letH (va_up F n (.inl (0, 80, .inl (fun _ => 0)))) fun F1 => ((pV F1 a0 6 0 (.ref n)).bind fun F2 => ((pV F2 a0 6 1 (.int 0)).bind fun F3 => some F3)))
set_option maxHeartbeats 4000000 in
set_option maxRecDepth 100000 in
theorem bl_X6_init {X : Cx} {n : Nat} (hn : X.2.2.2.2.1 = n) {F' : Hp} (hX : Md X cX6_init RX6 1 (rmk 1 1 80) none true none F') (F : Hp) (a0 : Nat) (h : g_X6_init n F a0 = some F') : PW X 0 0 F 0 [(0, .ref a0)] [] := by
  have hO := hX.1
  unfold g_X6_init at h
  refine pw_aload_n hO dX6_init_0 0 rfl ?_
  refine pw_obj hO dX6_init_1 ol_X6_3 (Nat.le_of_ble_eq_true rfl) (Nat.le_of_ble_eq_true rfl) (Nat.le_of_ble_eq_true rfl) ?_
  refine pw_aload_n hO dX6_init_4 0 rfl ?_
  refine pw_bipush hO dX6_init_5 (v := 80) (by decide) ?_
  refine pw_newa hO hn dX6_init_7 ac_int 80 n 1 80 (by decide) (by decide) (Nat.le_of_ble_eq_true rfl) rfl rfl rfl ⟨Nat.le_of_ble_eq_true rfl, Nat.le_of_ble_eq_true rfl⟩ ?_
  obtain ⟨F1, eF1, h⟩ := letH_spec h
  rw [← eF1]
  refine pw_putF hO hX.2 dX6_init_9 fpf_X6_9 (fun _ => rfl) (fun _ => rfl) h (fun F2 h => ?_)
  refine pw_aload_n hO dX6_init_12 0 rfl ?_
  refine pw_iconst hO dX6_init_13 (v := 0) (by decide) ?_
  refine pw_putI hO dX6_init_14 fp_X6_15 h (fun F3 h => ?_)
  exact pw_vret hO hX.2 dX6_init_17 h
theorem ct_X6_init {n : Nat} {F : Hp} {a0 : Nat} {F' : Hp} (h : g_X6_init n F a0 = some F') : CT yX6_init cX6_init 1 none (rmk 1 1 80) n F [.ref a0] none F' :=
  ct_intro (own := RX6) (nm := true) (by decide) rfl (fun _ => rfl) (Nat.le_of_ble_eq_true rfl) (fun X hn hX => bl_X6_init hn hX F a0 h)
def g_X7_init (n : Nat) (F : Hp) (a0 : Nat) : Option Hp := (letH (va_up F n (.inr (6, [.null, .int 0]))) fun F1 => ((g_X6_init (n + 1) F1 n).bind fun F2 => ((pV F2 a0 7 0 (.ref n)).bind fun F3 => (letH (va_up F3 (n + 2) (.inr (2, [.null, .null, .int 0]))) fun F4 => ((g_X2_init (n + 3) F4 (n + 2)).bind fun F5 => ((pV F5 a0 7 1 (.ref (n + 2))).bind fun F6 => (letH (va_up F6 (n + 9) (.inr (1, [.null, .null, .int 0, .int 0, .int 0, .int 0, .int 0, .int 0, .int 0, .int 0, .int 0, .int 0, .int 0, .int 0]))) fun F7 => ((g_X1_init (n + 10) F7 (n + 9)).bind fun F8 => ((pV F8 a0 7 2 (.ref (n + 9))).bind fun F9 => (letH (va_up F9 (n + 14) (.inr (1, [.null, .null, .int 0, .int 0, .int 0, .int 0, .int 0, .int 0, .int 0, .int 0, .int 0, .int 0, .int 0, .int 0]))) fun F10 => ((g_X1_init (n + 15) F10 (n + 14)).bind fun F11 => ((pV F11 a0 7 3 (.ref (n + 14))).bind fun F12 => (letH (va_up F12 (n + 19) (.inr (0, [.null, .int 0]))) fun F13 => ((g_X0_init (n + 20) F13 (n + 19)).bind fun F14 => ((pV F14 a0 7 4 (.ref (n + 19))).bind fun F15 => (letH (va_up F15 (n + 91) (.inr (4, [.null, .null, .int 0]))) fun F16 => ((g_X4_init (n + 92) F16 (n + 91)).bind fun F17 => ((pV F17 a0 7 5 (.ref (n + 91))).bind fun F18 => (letH (va_up F18 (n + 94) (.inr (5, [.null, .int 0]))) fun F19 => ((g_X5_init (n + 95) F19 (n + 94)).bind fun F20 => ((pV F20 a0 7 6 (.ref (n + 94))).bind fun F21 => (letH (va_up F21 (n + 100) (.inr (5, [.null, .int 0]))) fun F22 => ((g_X5_init (n + 101) F22 (n + 100)).bind fun F23 => ((pV F23 a0 7 7 (.ref (n + 100))).bind fun F24 => ((pV F24 a0 7 8 (.long (0 : Int64))).bind fun F25 => some F25)))))))))))))))))))))))))
set_option maxHeartbeats 4000000 in
set_option maxRecDepth 100000 in
theorem bl_X7_init {X : Cx} {n : Nat} (hn : X.2.2.2.2.1 = n) {F' : Hp} (hX : Md X cX7_init RX7 1 (rmk 4 106 1027) none true none F') (F : Hp) (a0 : Nat) (h : g_X7_init n F a0 = some F') : PW X 0 0 F 0 [(0, .ref a0)] [] := by
  have hO := hX.1
  unfold g_X7_init at h
  refine pw_aload_n hO dX7_init_0 0 rfl ?_
  refine pw_obj hO dX7_init_1 ol_X7_1 (Nat.le_of_ble_eq_true rfl) (Nat.le_of_ble_eq_true rfl) (Nat.le_of_ble_eq_true rfl) ?_
  refine pw_aload_n hO dX7_init_4 0 rfl ?_
  refine pw_new hO hn dX7_init_5 cl_X7_7 n 1 2 rfl rfl rfl ⟨Nat.le_of_ble_eq_true rfl, Nat.le_of_ble_eq_true rfl⟩ ?_
  obtain ⟨F1, eF1, h⟩ := letH_spec h
  rw [← eF1]
  refine pw_dup hO dX7_init_8 rfl ?_
  refine pw_runI (st := [.ref n, .ref a0]) (d := 1) (K := 1) (S := 80) hO hn dX7_init_9 il_X7_9 h (n + 1) 2 82 rfl rfl rfl (fun F1 hg => ct_X6_init hg) ⟨Nat.le_of_ble_eq_true rfl, Nat.le_of_ble_eq_true rfl⟩ ⟨Nat.le_of_ble_eq_true rfl, Nat.le_of_ble_eq_true rfl⟩ (Nat.le_of_ble_eq_true rfl) (fun F2 h => ?_)
  refine pw_putF hO hX.2 dX7_init_12 fpf_X7_10 (fun _ => rfl) (fun _ => rfl) h (fun F3 h => ?_)
  refine pw_aload_n hO dX7_init_15 0 rfl ?_
  refine pw_new hO hn dX7_init_16 cl_X7_16 (n + 2) 3 85 rfl rfl rfl ⟨Nat.le_of_ble_eq_true rfl, Nat.le_of_ble_eq_true rfl⟩ ?_
  obtain ⟨F4, eF4, h⟩ := letH_spec h
  rw [← eF4]
  refine pw_dup hO dX7_init_19 rfl ?_
  refine pw_runI (st := [.ref (n + 2), .ref a0]) (d := 3) (K := 6) (S := 115) hO hn dX7_init_20 il_X7_18 h (n + 3) 9 200 rfl rfl rfl (fun F1 hg => ct_X2_init hg) ⟨Nat.le_of_ble_eq_true rfl, Nat.le_of_ble_eq_true rfl⟩ ⟨Nat.le_of_ble_eq_true rfl, Nat.le_of_ble_eq_true rfl⟩ (Nat.le_of_ble_eq_true rfl) (fun F5 h => ?_)
  refine pw_putF hO hX.2 dX7_init_23 fpf_X7_19 (fun _ => rfl) (fun _ => rfl) h (fun F6 h => ?_)
  refine pw_aload_n hO dX7_init_26 0 rfl ?_
  refine pw_new hO hn dX7_init_27 cl_X7_23 (n + 9) 10 214 rfl rfl rfl ⟨Nat.le_of_ble_eq_true rfl, Nat.le_of_ble_eq_true rfl⟩ ?_
  obtain ⟨F7, eF7, h⟩ := letH_spec h
  rw [← eF7]
  refine pw_dup hO dX7_init_30 rfl ?_
  refine pw_runI (st := [.ref (n + 9), .ref a0]) (d := 2) (K := 4) (S := 30) hO hn dX7_init_31 il_X7_25 h (n + 10) 14 244 rfl rfl rfl (fun F1 hg => ct_X1_init hg) ⟨Nat.le_of_ble_eq_true rfl, Nat.le_of_ble_eq_true rfl⟩ ⟨Nat.le_of_ble_eq_true rfl, Nat.le_of_ble_eq_true rfl⟩ (Nat.le_of_ble_eq_true rfl) (fun F8 h => ?_)
  refine pw_putF hO hX.2 dX7_init_34 fpf_X7_26 (fun _ => rfl) (fun _ => rfl) h (fun F9 h => ?_)
  refine pw_aload_n hO dX7_init_37 0 rfl ?_
  refine pw_new hO hn dX7_init_38 cl_X7_23 (n + 14) 15 258 rfl rfl rfl ⟨Nat.le_of_ble_eq_true rfl, Nat.le_of_ble_eq_true rfl⟩ ?_
  obtain ⟨F10, eF10, h⟩ := letH_spec h
  rw [← eF10]
  refine pw_dup hO dX7_init_41 rfl ?_
  refine pw_runI (st := [.ref (n + 14), .ref a0]) (d := 2) (K := 4) (S := 30) hO hn dX7_init_42 il_X7_25 h (n + 15) 19 288 rfl rfl rfl (fun F1 hg => ct_X1_init hg) ⟨Nat.le_of_ble_eq_true rfl, Nat.le_of_ble_eq_true rfl⟩ ⟨Nat.le_of_ble_eq_true rfl, Nat.le_of_ble_eq_true rfl⟩ (Nat.le_of_ble_eq_true rfl) (fun F11 h => ?_)
  refine pw_putF hO hX.2 dX7_init_45 fpf_X7_30 (fun _ => rfl) (fun _ => rfl) h (fun F12 h => ?_)
  refine pw_aload_n hO dX7_init_48 0 rfl ?_
  refine pw_new hO hn dX7_init_49 cl_X7_33 (n + 19) 20 290 rfl rfl rfl ⟨Nat.le_of_ble_eq_true rfl, Nat.le_of_ble_eq_true rfl⟩ ?_
  obtain ⟨F13, eF13, h⟩ := letH_spec h
  rw [← eF13]
  refine pw_dup hO dX7_init_52 rfl ?_
  refine pw_runI (st := [.ref (n + 19), .ref a0]) (d := 3) (K := 71) (S := 630) hO hn dX7_init_53 il_X7_35 h (n + 20) 91 920 rfl rfl rfl (fun F1 hg => ct_X0_init hg) ⟨Nat.le_of_ble_eq_true rfl, Nat.le_of_ble_eq_true rfl⟩ ⟨Nat.le_of_ble_eq_true rfl, Nat.le_of_ble_eq_true rfl⟩ (Nat.le_of_ble_eq_true rfl) (fun F14 h => ?_)
  refine pw_putF hO hX.2 dX7_init_56 fpf_X7_36 (fun _ => rfl) (fun _ => rfl) h (fun F15 h => ?_)
  refine pw_aload_n hO dX7_init_59 0 rfl ?_
  refine pw_new hO hn dX7_init_60 cl_X7_40 (n + 91) 92 923 rfl rfl rfl ⟨Nat.le_of_ble_eq_true rfl, Nat.le_of_ble_eq_true rfl⟩ ?_
  obtain ⟨F16, eF16, h⟩ := letH_spec h
  rw [← eF16]
  refine pw_dup hO dX7_init_63 rfl ?_
  refine pw_runI (st := [.ref (n + 91), .ref a0]) (d := 1) (K := 2) (S := 12) hO hn dX7_init_64 il_X7_42 h (n + 92) 94 935 rfl rfl rfl (fun F1 hg => ct_X4_init hg) ⟨Nat.le_of_ble_eq_true rfl, Nat.le_of_ble_eq_true rfl⟩ ⟨Nat.le_of_ble_eq_true rfl, Nat.le_of_ble_eq_true rfl⟩ (Nat.le_of_ble_eq_true rfl) (fun F17 h => ?_)
  refine pw_putF hO hX.2 dX7_init_67 fpf_X7_43 (fun _ => rfl) (fun _ => rfl) h (fun F18 h => ?_)
  refine pw_aload_n hO dX7_init_70 0 rfl ?_
  refine pw_new hO hn dX7_init_71 cl_X7_47 (n + 94) 95 937 rfl rfl rfl ⟨Nat.le_of_ble_eq_true rfl, Nat.le_of_ble_eq_true rfl⟩ ?_
  obtain ⟨F19, eF19, h⟩ := letH_spec h
  rw [← eF19]
  refine pw_dup hO dX7_init_74 rfl ?_
  refine pw_runI (st := [.ref (n + 94), .ref a0]) (d := 3) (K := 5) (S := 44) hO hn dX7_init_75 il_X7_49 h (n + 95) 100 981 rfl rfl rfl (fun F1 hg => ct_X5_init hg) ⟨Nat.le_of_ble_eq_true rfl, Nat.le_of_ble_eq_true rfl⟩ ⟨Nat.le_of_ble_eq_true rfl, Nat.le_of_ble_eq_true rfl⟩ (Nat.le_of_ble_eq_true rfl) (fun F20 h => ?_)
  refine pw_putF hO hX.2 dX7_init_78 fpf_X7_50 (fun _ => rfl) (fun _ => rfl) h (fun F21 h => ?_)
  refine pw_aload_n hO dX7_init_81 0 rfl ?_
  refine pw_new hO hn dX7_init_82 cl_X7_47 (n + 100) 101 983 rfl rfl rfl ⟨Nat.le_of_ble_eq_true rfl, Nat.le_of_ble_eq_true rfl⟩ ?_
  obtain ⟨F22, eF22, h⟩ := letH_spec h
  rw [← eF22]
  refine pw_dup hO dX7_init_85 rfl ?_
  refine pw_runI (st := [.ref (n + 100), .ref a0]) (d := 3) (K := 5) (S := 44) hO hn dX7_init_86 il_X7_49 h (n + 101) 106 1027 rfl rfl rfl (fun F1 hg => ct_X5_init hg) ⟨Nat.le_of_ble_eq_true rfl, Nat.le_of_ble_eq_true rfl⟩ ⟨Nat.le_of_ble_eq_true rfl, Nat.le_of_ble_eq_true rfl⟩ (Nat.le_of_ble_eq_true rfl) (fun F23 h => ?_)
  refine pw_putF hO hX.2 dX7_init_89 fpf_X7_54 (fun _ => rfl) (fun _ => rfl) h (fun F24 h => ?_)
  refine pw_aload_n hO dX7_init_92 0 rfl ?_
  refine pw_lconst hO dX7_init_93 (v := (0 : Int64)) (by decide) ?_
  refine pw_putL hO dX7_init_94 fp_X7_57 h (fun F25 h => ?_)
  exact pw_vret hO hX.2 dX7_init_97 h
theorem ct_X7_init {n : Nat} {F : Hp} {a0 : Nat} {F' : Hp} (h : g_X7_init n F a0 = some F') : CT yX7_init cX7_init 1 none (rmk 4 106 1027) n F [.ref a0] none F' :=
  ct_intro (own := RX7) (nm := true) (by decide) rfl (fun _ => rfl) (Nat.le_of_ble_eq_true rfl) (fun X hn hX => bl_X7_init hn hX F a0 h)
def g_X8_init (n : Nat) (F : Hp) (a0 : Nat) : Option Hp := (letH (va_up F n (.inl (0, 80, .inl (fun _ => 0)))) fun F1 => ((pV F1 a0 8 1 (.ref n)).bind fun F2 => (letH (va_up F2 (n + 1) (.inl (0, 39, .inl (fun _ => 0)))) fun F3 => ((pV F3 a0 8 4 (.ref (n + 1))).bind fun F4 => (letH (va_up F4 (n + 2) (.inl (0, 80, .inl (fun _ => 0)))) fun F5 => ((pV F5 a0 8 5 (.ref (n + 2))).bind fun F6 => (letH (va_up F6 (n + 3) (.inl (0, 39, .inl (fun _ => 0)))) fun F7 => ((pV F7 a0 8 7 (.ref (n + 3))).bind fun F8 => (letH (va_up F8 (n + 4) (.inl (0, 39, .inl (fun _ => 0)))) fun F9 => ((pV F9 a0 8 8 (.ref (n + 4))).bind fun F10 => (letH (va_up F10 (n + 5) (.inl (0, 80, .inl (fun _ => 0)))) fun F11 => ((pV F11 a0 8 9 (.ref (n + 5))).bind fun F12 => (letH (va_up F12 (n + 6) (.inl (0, 39, .inl (fun _ => 0)))) fun F13 => ((pV F13 a0 8 11 (.ref (n + 6))).bind fun F14 => (letH (va_up F14 (n + 7) (.inl (0, 546, .inl (fun _ => 0)))) fun F15 => ((pV F15 a0 8 12 (.ref (n + 7))).bind fun F16 => (letH (va_up F16 (n + 8) (.inl (0, 78, .inl (fun _ => 0)))) fun F17 => ((pV F17 a0 8 14 (.ref (n + 8))).bind fun F18 => (letH (va_up F18 (n + 9) (.inl (1, 2, .inl (fun _ => 0)))) fun F19 => ((pV F19 a0 8 15 (.ref (n + 9))).bind fun F20 => (letH (va_up F20 (n + 10) (.inl (0, 6, .inl (fun _ => 0)))) fun F21 => ((pV F21 a0 8 17 (.ref (n + 10))).bind fun F22 => (letH (va_up F22 (n + 11) (.inl (0, 6, .inl (fun _ => 0)))) fun F23 => ((pV F23 a0 8 18 (.ref (n + 11))).bind fun F24 => (letH (va_up F24 (n + 12) (.inl (0, 100, .inl (fun _ => 0)))) fun F25 => ((pV F25 a0 8 20 (.ref (n + 12))).bind fun F26 => ((pV F26 a0 8 21 (.int 7)).bind fun F27 => ((gR F27 a0 8 7).bind fun q28 => ((g_X8_layFirst F27 q28).bind fun F29 => ((gR F29 a0 8 8).bind fun q31 => ((g_X8_layFirst F29 q31).bind fun F32 => some F32)))))))))))))))))))))))))))))))
set_option maxHeartbeats 4000000 in
set_option maxRecDepth 100000 in
theorem bl_X8_init {X : Cx} {n : Nat} (hn : X.2.2.2.2.1 = n) {F' : Hp} (hX : Md X cX8_init RX8 1 (rmk 1 13 1134) none true none F') (F : Hp) (a0 : Nat) (h : g_X8_init n F a0 = some F') : PW X 0 0 F 0 [(0, .ref a0)] [] := by
  have hO := hX.1
  unfold g_X8_init at h
  refine pw_aload_n hO dX8_init_0 0 rfl ?_
  refine pw_obj hO dX8_init_1 ol_X8_1 (Nat.le_of_ble_eq_true rfl) (Nat.le_of_ble_eq_true rfl) (Nat.le_of_ble_eq_true rfl) ?_
  refine pw_aload_n hO dX8_init_4 0 rfl ?_
  refine pw_bipush hO dX8_init_5 (v := 80) (by decide) ?_
  refine pw_newa hO hn dX8_init_7 ac_int 80 n 1 80 (by decide) (by decide) (Nat.le_of_ble_eq_true rfl) rfl rfl rfl ⟨Nat.le_of_ble_eq_true rfl, Nat.le_of_ble_eq_true rfl⟩ ?_
  obtain ⟨F1, eF1, h⟩ := letH_spec h
  rw [← eF1]
  refine pw_putF hO hX.2 dX8_init_9 fpf_X8_7 (fun _ => rfl) (fun _ => rfl) h (fun F2 h => ?_)
  refine pw_aload_n hO dX8_init_12 0 rfl ?_
  refine pw_bipush hO dX8_init_13 (v := 39) (by decide) ?_
  refine pw_newa hO hn dX8_init_15 ac_int 39 (n + 1) 2 119 (by decide) (by decide) (Nat.le_of_ble_eq_true rfl) rfl rfl rfl ⟨Nat.le_of_ble_eq_true rfl, Nat.le_of_ble_eq_true rfl⟩ ?_
  obtain ⟨F3, eF3, h⟩ := letH_spec h
  rw [← eF3]
  refine pw_putF hO hX.2 dX8_init_17 fpf_X8_13 (fun _ => rfl) (fun _ => rfl) h (fun F4 h => ?_)
  refine pw_aload_n hO dX8_init_20 0 rfl ?_
  refine pw_bipush hO dX8_init_21 (v := 80) (by decide) ?_
  refine pw_newa hO hn dX8_init_23 ac_int 80 (n + 2) 3 199 (by decide) (by decide) (Nat.le_of_ble_eq_true rfl) rfl rfl rfl ⟨Nat.le_of_ble_eq_true rfl, Nat.le_of_ble_eq_true rfl⟩ ?_
  obtain ⟨F5, eF5, h⟩ := letH_spec h
  rw [← eF5]
  refine pw_putF hO hX.2 dX8_init_25 fpf_X8_16 (fun _ => rfl) (fun _ => rfl) h (fun F6 h => ?_)
  refine pw_aload_n hO dX8_init_28 0 rfl ?_
  refine pw_bipush hO dX8_init_29 (v := 39) (by decide) ?_
  refine pw_newa hO hn dX8_init_31 ac_int 39 (n + 3) 4 238 (by decide) (by decide) (Nat.le_of_ble_eq_true rfl) rfl rfl rfl ⟨Nat.le_of_ble_eq_true rfl, Nat.le_of_ble_eq_true rfl⟩ ?_
  obtain ⟨F7, eF7, h⟩ := letH_spec h
  rw [← eF7]
  refine pw_putF hO hX.2 dX8_init_33 fpf_X8_19 (fun _ => rfl) (fun _ => rfl) h (fun F8 h => ?_)
  refine pw_aload_n hO dX8_init_36 0 rfl ?_
  refine pw_bipush hO dX8_init_37 (v := 39) (by decide) ?_
  refine pw_newa hO hn dX8_init_39 ac_int 39 (n + 4) 5 277 (by decide) (by decide) (Nat.le_of_ble_eq_true rfl) rfl rfl rfl ⟨Nat.le_of_ble_eq_true rfl, Nat.le_of_ble_eq_true rfl⟩ ?_
  obtain ⟨F9, eF9, h⟩ := letH_spec h
  rw [← eF9]
  refine pw_putF hO hX.2 dX8_init_41 fpf_X8_22 (fun _ => rfl) (fun _ => rfl) h (fun F10 h => ?_)
  refine pw_aload_n hO dX8_init_44 0 rfl ?_
  refine pw_bipush hO dX8_init_45 (v := 80) (by decide) ?_
  refine pw_newa hO hn dX8_init_47 ac_int 80 (n + 5) 6 357 (by decide) (by decide) (Nat.le_of_ble_eq_true rfl) rfl rfl rfl ⟨Nat.le_of_ble_eq_true rfl, Nat.le_of_ble_eq_true rfl⟩ ?_
  obtain ⟨F11, eF11, h⟩ := letH_spec h
  rw [← eF11]
  refine pw_putF hO hX.2 dX8_init_49 fpf_X8_25 (fun _ => rfl) (fun _ => rfl) h (fun F12 h => ?_)
  refine pw_aload_n hO dX8_init_52 0 rfl ?_
  refine pw_bipush hO dX8_init_53 (v := 39) (by decide) ?_
  refine pw_newa hO hn dX8_init_55 ac_int 39 (n + 6) 7 396 (by decide) (by decide) (Nat.le_of_ble_eq_true rfl) rfl rfl rfl ⟨Nat.le_of_ble_eq_true rfl, Nat.le_of_ble_eq_true rfl⟩ ?_
  obtain ⟨F13, eF13, h⟩ := letH_spec h
  rw [← eF13]
  refine pw_putF hO hX.2 dX8_init_57 fpf_X8_28 (fun _ => rfl) (fun _ => rfl) h (fun F14 h => ?_)
  refine pw_aload_n hO dX8_init_60 0 rfl ?_
  refine pw_sipush hO dX8_init_61 (v := 546) (by decide) ?_
  refine pw_newa hO hn dX8_init_64 ac_int 546 (n + 7) 8 942 (by decide) (by decide) (Nat.le_of_ble_eq_true rfl) rfl rfl rfl ⟨Nat.le_of_ble_eq_true rfl, Nat.le_of_ble_eq_true rfl⟩ ?_
  obtain ⟨F15, eF15, h⟩ := letH_spec h
  rw [← eF15]
  refine pw_putF hO hX.2 dX8_init_66 fpf_X8_31 (fun _ => rfl) (fun _ => rfl) h (fun F16 h => ?_)
  refine pw_aload_n hO dX8_init_69 0 rfl ?_
  refine pw_bipush hO dX8_init_70 (v := 78) (by decide) ?_
  refine pw_newa hO hn dX8_init_72 ac_int 78 (n + 8) 9 1020 (by decide) (by decide) (Nat.le_of_ble_eq_true rfl) rfl rfl rfl ⟨Nat.le_of_ble_eq_true rfl, Nat.le_of_ble_eq_true rfl⟩ ?_
  obtain ⟨F17, eF17, h⟩ := letH_spec h
  rw [← eF17]
  refine pw_putF hO hX.2 dX8_init_74 fpf_X8_34 (fun _ => rfl) (fun _ => rfl) h (fun F18 h => ?_)
  refine pw_aload_n hO dX8_init_77 0 rfl ?_
  refine pw_iconst hO dX8_init_78 (v := 2) (by decide) ?_
  refine pw_newz hO hn dX8_init_79 ac_bool 2 (n + 9) 10 1022 (by decide) (by decide) (Nat.le_of_ble_eq_true rfl) rfl rfl rfl ⟨Nat.le_of_ble_eq_true rfl, Nat.le_of_ble_eq_true rfl⟩ ?_
  obtain ⟨F19, eF19, h⟩ := letH_spec h
  rw [← eF19]
  refine pw_putF hO hX.2 dX8_init_81 fpf_X8_37 (fun _ => rfl) (fun _ => rfl) h (fun F20 h => ?_)
  refine pw_aload_n hO dX8_init_84 0 rfl ?_
  refine pw_bipush hO dX8_init_85 (v := 6) (by decide) ?_
  refine pw_newa hO hn dX8_init_87 ac_int 6 (n + 10) 11 1028 (by decide) (by decide) (Nat.le_of_ble_eq_true rfl) rfl rfl rfl ⟨Nat.le_of_ble_eq_true rfl, Nat.le_of_ble_eq_true rfl⟩ ?_
  obtain ⟨F21, eF21, h⟩ := letH_spec h
  rw [← eF21]
  refine pw_putF hO hX.2 dX8_init_89 fpf_X8_41 (fun _ => rfl) (fun _ => rfl) h (fun F22 h => ?_)
  refine pw_aload_n hO dX8_init_92 0 rfl ?_
  refine pw_bipush hO dX8_init_93 (v := 6) (by decide) ?_
  refine pw_newa hO hn dX8_init_95 ac_int 6 (n + 11) 12 1034 (by decide) (by decide) (Nat.le_of_ble_eq_true rfl) rfl rfl rfl ⟨Nat.le_of_ble_eq_true rfl, Nat.le_of_ble_eq_true rfl⟩ ?_
  obtain ⟨F23, eF23, h⟩ := letH_spec h
  rw [← eF23]
  refine pw_putF hO hX.2 dX8_init_97 fpf_X8_44 (fun _ => rfl) (fun _ => rfl) h (fun F24 h => ?_)
  refine pw_aload_n hO dX8_init_100 0 rfl ?_
  refine pw_bipush hO dX8_init_101 (v := 100) (by decide) ?_
  refine pw_newa hO hn dX8_init_103 ac_int 100 (n + 12) 13 1134 (by decide) (by decide) (Nat.le_of_ble_eq_true rfl) rfl rfl rfl ⟨Nat.le_of_ble_eq_true rfl, Nat.le_of_ble_eq_true rfl⟩ ?_
  obtain ⟨F25, eF25, h⟩ := letH_spec h
  rw [← eF25]
  refine pw_putF hO hX.2 dX8_init_105 fpf_X8_47 (fun _ => rfl) (fun _ => rfl) h (fun F26 h => ?_)
  refine pw_aload_n hO dX8_init_108 0 rfl ?_
  refine pw_bipush hO dX8_init_109 (v := 7) (by decide) ?_
  refine pw_putI hO dX8_init_111 fp_X8_50 h (fun F27 h => ?_)
  refine pw_aload_n hO dX8_init_114 0 rfl ?_
  refine pw_getR hO dX8_init_115 fl_X8_19 h (fun q28 h => ?_)
  refine pw_S0 (as := [.ref q28]) (st := []) (d := 0) hO [.ref q28] dX8_init_118 sl_X8_54 h (fun F1 hg n => ct_X8_layFirst hg) ⟨Nat.le_of_ble_eq_true rfl, Nat.le_of_ble_eq_true rfl⟩ ⟨Nat.le_of_ble_eq_true rfl, Nat.le_of_ble_eq_true rfl⟩ (Nat.le_of_ble_eq_true rfl) (fun _ _ => rfl) rfl (fun F29 h => ?_)
  refine pw_aload_n hO dX8_init_121 0 rfl ?_
  refine pw_getR hO dX8_init_122 fl_X8_22 h (fun q31 h => ?_)
  refine pw_S0 (as := [.ref q31]) (st := []) (d := 0) hO [.ref q31] dX8_init_125 sl_X8_54 h (fun F1 hg n => ct_X8_layFirst hg) ⟨Nat.le_of_ble_eq_true rfl, Nat.le_of_ble_eq_true rfl⟩ ⟨Nat.le_of_ble_eq_true rfl, Nat.le_of_ble_eq_true rfl⟩ (Nat.le_of_ble_eq_true rfl) (fun _ _ => rfl) rfl (fun F32 h => ?_)
  exact pw_vret hO hX.2 dX8_init_128 h
theorem ct_X8_init {n : Nat} {F : Hp} {a0 : Nat} {F' : Hp} (h : g_X8_init n F a0 = some F') : CT yX8_init cX8_init 1 none (rmk 1 13 1134) n F [.ref a0] none F' :=
  ct_intro (own := RX8) (nm := true) (by decide) rfl (fun _ => rfl) (Nat.le_of_ble_eq_true rfl) (fun X hn hX => bl_X8_init hn hX F a0 h)
