def g_X7_write (F : Hp) (a0 : Nat) (a1 : Int32) : Option (Int32 × Hp) := (bnd2 (g_X7_isWithin F a1 0 255) fun x2 F1 => (if x2 = 0 then some ((-2), F1) else ((gR F1 a0 7 0).bind fun q4 => (ckO F1 q4 6 (bnd2 (g_X6_append F1 q4 a1) fun x6 F5 => (if x6 = 0 then some ((-4), F5) else ((gR F5 a0 7 0).bind fun q8 => ((gI F5 q8 6 1).bind fun x9 => some (x9, F5)))))))))
set_option maxHeartbeats 4000000 in
theorem bl_X7_write {X : Cx} {rx : Int32} {F' : Hp} (hX : Md X cX7_write RX7 2 (rmd 1) (some FieldType.int) false (some (.int rx)) F') (F : Hp) (a0 : Nat) (a1 : Int32) (h : g_X7_write F a0 a1 = some (rx, F')) : PW X 0 0 F 0 [(0, .ref a0), (1, .int a1)] [] := by
  have hO := hX.1
  unfold g_X7_write at h
  refine pw_iload_n hO dX7_write_0 1 rfl ?_
  refine pw_iconst hO dX7_write_1 (v := 0) (by decide) ?_
  refine pw_sipush hO dX7_write_2 (v := 255) (by decide) ?_
  refine pw_SI (as := [.int a1, .int 0, .int 255]) (st := []) (d := 0) hO [.int 255, .int 0, .int a1] dX7_write_5 sl_X7_61 h (fun r F1 hg n => ct_X7_isWithin hg) ⟨Nat.le_of_ble_eq_true rfl, Nat.le_of_ble_eq_true rfl⟩ ⟨Nat.zero_le _, Nat.zero_le _⟩ (Nat.le_of_ble_eq_true rfl) (fun _ _ => rfl) rfl (fun x2 F1 h => ?_)
  refine pw_if_ne (tgt := 14) hO dX7_write_8 (by decide) h (fun c3 h => ?_) (fun c3 h => ?_)
  · refine pw_aload_n hO dX7_write_14 0 rfl ?_
    refine pw_getR hO dX7_write_15 fl_X7_10 h (fun q4 h => ?_)
    refine pw_iload_n hO dX7_write_18 1 rfl ?_
    refine pw_VI (a := q4) (ci := 6) (as := [.int a1]) (st := []) (d := 0) hO [.int a1, .ref q4] dX7_write_19 vl_X7_65 h (fun r F1 hg n => ct_X6_append hg) ⟨Nat.le_of_ble_eq_true rfl, Nat.le_of_ble_eq_true rfl⟩ ⟨Nat.zero_le _, Nat.zero_le _⟩ (Nat.le_of_ble_eq_true rfl) (fun _ _ => rfl) rfl (fun x6 F5 h => ?_)
    refine pw_if_eq (tgt := 35) hO dX7_write_22 (by decide) h (fun c7 h => ?_) (fun c7 h => ?_)
    · refine pw_bipush hO dX7_write_35 (v := (-4)) (by decide) ?_
      exact pw_iret hO hX.2 dX7_write_37 h
    · refine pw_aload_n hO dX7_write_25 0 rfl ?_
      refine pw_getR hO dX7_write_26 fl_X7_10 h (fun q8 h => ?_)
      refine pw_getI hO dX7_write_29 fl_X7_69 h (fun x9 h => ?_)
      refine pw_goto (tgt := 37) hO dX7_write_32 (by decide) ?_
      exact pw_iret hO hX.2 dX7_write_37 h
  · refine pw_bipush hO dX7_write_11 (v := (-2)) (by decide) ?_
    exact pw_iret hO hX.2 dX7_write_13 h
theorem ct_X7_write {n : Nat} {F : Hp} {a0 : Nat} {a1 : Int32} {rx : Int32} {F' : Hp} (h : g_X7_write F a0 a1 = some (rx, F')) : CT yX7_write cX7_write 2 (some FieldType.int) (rmd 1) n F [.ref a0, .int a1] (some (.int rx)) F' :=
  ct_intro (own := RX7) (nm := false) (by decide) rfl (fun h => by cases h) (Nat.le_of_ble_eq_true rfl) (fun X hn hX => bl_X7_write hX F a0 a1 h)
def g_X7_wipe (F : Hp) (a0 : Nat) : Option (Int32 × Hp) := ((gR F a0 7 0).bind fun q1 => ((gI F q1 6 1).bind fun x2 => ((gR F a0 7 0).bind fun q3 => ((pV F q3 6 1 (.int 0)).bind fun F4 => some (x2, F4)))))
set_option maxHeartbeats 4000000 in
theorem bl_X7_wipe {X : Cx} {rx : Int32} {F' : Hp} (hX : Md X cX7_wipe RX7 2 (rmd 0) (some FieldType.int) false (some (.int rx)) F') (F : Hp) (a0 : Nat) (h : g_X7_wipe F a0 = some (rx, F')) : PW X 0 0 F 0 [(0, .ref a0)] [] := by
  have hO := hX.1
  unfold g_X7_wipe at h
  refine pw_aload_n hO dX7_wipe_0 0 rfl ?_
  refine pw_getR hO dX7_wipe_1 fl_X7_10 h (fun q1 h => ?_)
  refine pw_getI hO dX7_wipe_4 fl_X7_69 h (fun x2 h => ?_)
  refine pw_istore_n hO [(1, .int x2), (0, .ref a0)] dX7_wipe_7 (by decide) rfl ?_
  refine pw_aload_n hO dX7_wipe_8 1 rfl ?_
  refine pw_getR hO dX7_wipe_9 fl_X7_10 h (fun q3 h => ?_)
  refine pw_iconst hO dX7_wipe_12 (v := 0) (by decide) ?_
  refine pw_putI hO dX7_wipe_13 fp_X7_69 h (fun F4 h => ?_)
  refine pw_iload_n hO dX7_wipe_16 0 rfl ?_
  exact pw_iret hO hX.2 dX7_wipe_17 h
theorem ct_X7_wipe {n : Nat} {F : Hp} {a0 : Nat} {rx : Int32} {F' : Hp} (h : g_X7_wipe F a0 = some (rx, F')) : CT yX7_wipe cX7_wipe 2 (some FieldType.int) (rmd 0) n F [.ref a0] (some (.int rx)) F' :=
  ct_intro (own := RX7) (nm := false) (by decide) rfl (fun h => by cases h) (Nat.le_of_ble_eq_true rfl) (fun X hn hX => bl_X7_wipe hX F a0 h)
def g_X7_fault (F : Hp) (a0 : Nat) : Option (Int32 × Hp) := ((gR F a0 7 0).bind fun q1 => (ckO F q1 6 (bnd2 (g_X6_faultPlace F q1) fun x3 F2 => some (x3, F2))))
set_option maxHeartbeats 4000000 in
theorem bl_X7_fault {X : Cx} {rx : Int32} {F' : Hp} (hX : Md X cX7_fault RX7 1 (rmd 3) (some FieldType.int) false (some (.int rx)) F') (F : Hp) (a0 : Nat) (h : g_X7_fault F a0 = some (rx, F')) : PW X 0 0 F 0 [(0, .ref a0)] [] := by
  have hO := hX.1
  unfold g_X7_fault at h
  refine pw_aload_n hO dX7_fault_0 0 rfl ?_
  refine pw_getR hO dX7_fault_1 fl_X7_10 h (fun q1 h => ?_)
  refine pw_VI (a := q1) (ci := 6) (as := []) (st := []) (d := 2) hO [.ref q1] dX7_fault_4 vl_X7_73 h (fun r F1 hg n => ct_X6_faultPlace hg) ⟨Nat.le_of_ble_eq_true rfl, Nat.le_of_ble_eq_true rfl⟩ ⟨Nat.zero_le _, Nat.zero_le _⟩ (Nat.le_of_ble_eq_true rfl) (fun _ _ => rfl) rfl (fun x3 F2 h => ?_)
  exact pw_iret hO hX.2 dX7_fault_7 h
theorem ct_X7_fault {n : Nat} {F : Hp} {a0 : Nat} {rx : Int32} {F' : Hp} (h : g_X7_fault F a0 = some (rx, F')) : CT yX7_fault cX7_fault 1 (some FieldType.int) (rmd 3) n F [.ref a0] (some (.int rx)) F' :=
  ct_intro (own := RX7) (nm := false) (by decide) rfl (fun h => by cases h) (Nat.le_of_ble_eq_true rfl) (fun X hn hX => bl_X7_fault hX F a0 h)
def g_X7_link (F : Hp) (a0 : Nat) : Option (Int32 × Hp) := ((gR F a0 7 0).bind fun q1 => (ckO F q1 6 (bnd2 (g_X6_faultPlace F q1) fun x3 F2 => (if x3 = (-9) then ((gR F2 a0 7 1).bind fun q5 => ((gR F2 a0 7 0).bind fun q6 => (ckO F2 q5 2 ((g_X2_become F2 q5 q6).bind fun F7 => ((gR F7 a0 7 2).bind fun q9 => ((gR F7 a0 7 1).bind fun q10 => ((gR F7 q10 2 0).bind fun q11 => (ckO F7 q9 1 ((g_X1_become F7 q9 q11).bind fun F12 => ((gR F12 a0 7 1).bind fun q14 => ((gR F12 a0 7 2).bind fun q15 => (ckO F12 q14 2 ((g_X2_perform F12 q14 q15 0).bind fun F16 => ((gR F16 a0 7 4).bind fun q18 => ((pV F16 q18 0 1 (.int 0)).bind fun F19 => ((gR F19 a0 7 6).bind fun q20 => ((pZ F19 q20 5 1 0).bind fun F21 => ((gR F21 a0 7 7).bind fun q22 => ((pZ F21 q22 5 1 0).bind fun F23 => ((gR F23 a0 7 2).bind fun q24 => ((gI F23 q24 1 8).bind fun x25 => some (x25, F23)))))))))))))))))))))) else some ((-3), F2)))))
set_option maxHeartbeats 4000000 in
theorem bl_X7_link {X : Cx} {rx : Int32} {F' : Hp} (hX : Md X cX7_link RX7 1 (rmd 5) (some FieldType.int) false (some (.int rx)) F') (F : Hp) (a0 : Nat) (h : g_X7_link F a0 = some (rx, F')) : PW X 0 0 F 0 [(0, .ref a0)] [] := by
  have hO := hX.1
  unfold g_X7_link at h
  refine pw_aload_n hO dX7_link_0 0 rfl ?_
  refine pw_getR hO dX7_link_1 fl_X7_10 h (fun q1 h => ?_)
  refine pw_VI (a := q1) (ci := 6) (as := []) (st := []) (d := 2) hO [.ref q1] dX7_link_4 vl_X7_73 h (fun r F1 hg n => ct_X6_faultPlace hg) ⟨Nat.le_of_ble_eq_true rfl, Nat.le_of_ble_eq_true rfl⟩ ⟨Nat.zero_le _, Nat.zero_le _⟩ (Nat.le_of_ble_eq_true rfl) (fun _ _ => rfl) rfl (fun x3 F2 h => ?_)
  refine pw_bipush hO dX7_link_7 (v := (-9)) (by decide) ?_
  refine pw_icmp_eq (tgt := 15) hO dX7_link_9 (by decide) h (fun c4 h => ?_) (fun c4 h => ?_)
  · refine pw_aload_n hO dX7_link_15 0 rfl ?_
    refine pw_getR hO dX7_link_16 fl_X7_19 h (fun q5 h => ?_)
    refine pw_aload_n hO dX7_link_19 0 rfl ?_
    refine pw_getR hO dX7_link_20 fl_X7_10 h (fun q6 h => ?_)
    refine pw_V0 (a := q5) (ci := 2) (as := [.ref q6]) (st := []) (d := 3) hO [.ref q6, .ref q5] dX7_link_23 vl_X7_77 h (fun F1 hg n => ct_X2_become hg) ⟨Nat.le_of_ble_eq_true rfl, Nat.le_of_ble_eq_true rfl⟩ ⟨Nat.zero_le _, Nat.zero_le _⟩ (Nat.le_of_ble_eq_true rfl) (fun _ _ => rfl) rfl (fun F7 h => ?_)
    refine pw_aload_n hO dX7_link_26 0 rfl ?_
    refine pw_getR hO dX7_link_27 fl_X7_26 h (fun q9 h => ?_)
    refine pw_aload_n hO dX7_link_30 0 rfl ?_
    refine pw_getR hO dX7_link_31 fl_X7_19 h (fun q10 h => ?_)
    refine pw_getR hO dX7_link_34 fl_X7_81 h (fun q11 h => ?_)
    refine pw_V0 (a := q9) (ci := 1) (as := [.ref q11]) (st := []) (d := 1) hO [.ref q11, .ref q9] dX7_link_37 vl_X7_84 h (fun F1 hg n => ct_X1_become hg) ⟨Nat.le_of_ble_eq_true rfl, Nat.le_of_ble_eq_true rfl⟩ ⟨Nat.zero_le _, Nat.zero_le _⟩ (Nat.le_of_ble_eq_true rfl) (fun _ _ => rfl) rfl (fun F12 h => ?_)
    refine pw_aload_n hO dX7_link_40 0 rfl ?_
    refine pw_getR hO dX7_link_41 fl_X7_19 h (fun q14 h => ?_)
    refine pw_aload_n hO dX7_link_44 0 rfl ?_
    refine pw_getR hO dX7_link_45 fl_X7_26 h (fun q15 h => ?_)
    refine pw_iconst hO dX7_link_48 (v := 0) (by decide) ?_
    refine pw_V0 (a := q14) (ci := 2) (as := [.ref q15, .int 0]) (st := []) (d := 4) hO [.int 0, .ref q15, .ref q14] dX7_link_49 vl_X7_87 h (fun F1 hg n => ct_X2_perform hg) ⟨Nat.le_of_ble_eq_true rfl, Nat.le_of_ble_eq_true rfl⟩ ⟨Nat.zero_le _, Nat.zero_le _⟩ (Nat.le_of_ble_eq_true rfl) (fun _ _ => rfl) rfl (fun F16 h => ?_)
    refine pw_aload_n hO dX7_link_52 0 rfl ?_
    refine pw_getR hO dX7_link_53 fl_X7_36 h (fun q18 h => ?_)
    refine pw_iconst hO dX7_link_56 (v := 0) (by decide) ?_
    refine pw_putI hO dX7_link_57 fp_X7_91 h (fun F19 h => ?_)
    refine pw_aload_n hO dX7_link_60 0 rfl ?_
    refine pw_getR hO dX7_link_61 fl_X7_50 h (fun q20 h => ?_)
    refine pw_iconst hO dX7_link_64 (v := 0) (by decide) ?_
    refine pw_putZ hO dX7_link_65 fp_X7_92 h (fun F21 h => ?_)
    refine pw_aload_n hO dX7_link_68 0 rfl ?_
    refine pw_getR hO dX7_link_69 fl_X7_54 h (fun q22 h => ?_)
    refine pw_iconst hO dX7_link_72 (v := 0) (by decide) ?_
    refine pw_putZ hO dX7_link_73 fp_X7_92 h (fun F23 h => ?_)
    refine pw_aload_n hO dX7_link_76 0 rfl ?_
    refine pw_getR hO dX7_link_77 fl_X7_26 h (fun q24 h => ?_)
    refine pw_getI hO dX7_link_80 fl_X7_96 h (fun x25 h => ?_)
    exact pw_iret hO hX.2 dX7_link_83 h
  · refine pw_bipush hO dX7_link_12 (v := (-3)) (by decide) ?_
    exact pw_iret hO hX.2 dX7_link_14 h
theorem ct_X7_link {n : Nat} {F : Hp} {a0 : Nat} {rx : Int32} {F' : Hp} (h : g_X7_link F a0 = some (rx, F')) : CT yX7_link cX7_link 1 (some FieldType.int) (rmd 5) n F [.ref a0] (some (.int rx)) F' :=
  ct_intro (own := RX7) (nm := false) (by decide) rfl (fun h => by cases h) (Nat.le_of_ble_eq_true rfl) (fun X hn hX => bl_X7_link hX F a0 h)
def g_X7_ticksTillQuiet_b13 : Nat → Hp → Nat → Int32 → Option (Int32 × Hp)
  | 0, _, _, _ => none
  | n + 1, F, v0, v1 => (if 99 < v1 then some ((-9), F) else ((gR F v0 7 3).bind fun q6 => (ckO F q6 1 (bnd2 (g_X1_isAtRest F q6) fun x8 F7 => (if x8 = 0 then ((gR F7 v0 7 3).bind fun q10 => (ckO F7 q10 1 ((g_X1_tick F7 q10).bind fun F11 => g_X7_ticksTillQuiet_b13 n F11 v0 ((v1 + 1))))) else some (v1, F7))))))
set_option maxHeartbeats 4000000 in
theorem bl_X7_ticksTillQuiet_b13 {X : Cx} {rx : Int32} {F' : Hp} (hX : Md X cX7_ticksTillQuiet RX7 2 (rmd 3) (some FieldType.int) false (some (.int rx)) F') : ∀ (n : Nat) (F : Hp) (v0 : Nat) (v1 : Int32), g_X7_ticksTillQuiet_b13 n F v0 v1 = some (rx, F') → PW X 0 0 F 13 [(0, .ref v0), (1, .int v1)] [] := by
  have hO := hX.1
  intro n
  induction n with
  | zero => intro F v0 v1 h; rw [g_X7_ticksTillQuiet_b13] at h; cases h
  | succ n ih =>
    intro F v0 v1 h
    rw [g_X7_ticksTillQuiet_b13] at h
    refine pw_iload_n hO dX7_ticksTillQuiet_13 1 rfl ?_
    refine pw_bipush hO dX7_ticksTillQuiet_14 (v := 99) (by decide) ?_
    refine pw_icmp_gt (tgt := 44) hO dX7_ticksTillQuiet_16 (by decide) h (fun c5 h => ?_) (fun c5 h => ?_)
    · refine pw_bipush hO dX7_ticksTillQuiet_44 (v := (-9)) (by decide) ?_
      exact pw_iret hO hX.2 dX7_ticksTillQuiet_46 h
    · refine pw_aload_n hO dX7_ticksTillQuiet_19 0 rfl ?_
      refine pw_getR hO dX7_ticksTillQuiet_20 fl_X7_30 h (fun q6 h => ?_)
      refine pw_VI (a := q6) (ci := 1) (as := []) (st := []) (d := 1) hO [.ref q6] dX7_ticksTillQuiet_23 vl_X7_237 h (fun r F1 hg n => ct_X1_isAtRest hg) ⟨Nat.le_of_ble_eq_true rfl, Nat.le_of_ble_eq_true rfl⟩ ⟨Nat.zero_le _, Nat.zero_le _⟩ (Nat.le_of_ble_eq_true rfl) (fun _ _ => rfl) rfl (fun x8 F7 h => ?_)
      refine pw_if_eq (tgt := 31) hO dX7_ticksTillQuiet_26 (by decide) h (fun c9 h => ?_) (fun c9 h => ?_)
      · refine pw_aload_n hO dX7_ticksTillQuiet_31 0 rfl ?_
        refine pw_getR hO dX7_ticksTillQuiet_32 fl_X7_30 h (fun q10 h => ?_)
        refine pw_V0 (a := q10) (ci := 1) (as := []) (st := []) (d := 2) hO [.ref q10] dX7_ticksTillQuiet_35 vl_X7_217 h (fun F1 hg n => ct_X1_tick hg) ⟨Nat.le_of_ble_eq_true rfl, Nat.le_of_ble_eq_true rfl⟩ ⟨Nat.zero_le _, Nat.zero_le _⟩ (Nat.le_of_ble_eq_true rfl) (fun _ _ => rfl) rfl (fun F11 h => ?_)
        refine pw_iinc hO [(1, .int (v1 + 1)), (0, .ref v0)] dX7_ticksTillQuiet_38 1 rfl rfl (by decide) rfl ?_
        refine pw_goto (tgt := 13) hO dX7_ticksTillQuiet_41 (by decide) ?_
        refine pw_sub (lv1 := [(0, .ref v0), (1, .int (v1 + 1))]) [1, 0] rfl ?_
        exact ih F11 v0 ((v1 + 1)) h
      · refine pw_iload_n hO dX7_ticksTillQuiet_29 1 rfl ?_
        exact pw_iret hO hX.2 dX7_ticksTillQuiet_30 h
def g_X7_ticksTillQuiet (F : Hp) (a0 : Nat) : Option (Int32 × Hp) := ((gR F a0 7 3).bind fun q1 => ((gR F a0 7 2).bind fun q2 => (ckO F q1 1 ((g_X1_become F q1 q2).bind fun F3 => g_X7_ticksTillQuiet_b13 gF F3 a0 0))))
set_option maxHeartbeats 4000000 in
theorem bl_X7_ticksTillQuiet {X : Cx} {rx : Int32} {F' : Hp} (hX : Md X cX7_ticksTillQuiet RX7 2 (rmd 3) (some FieldType.int) false (some (.int rx)) F') (F : Hp) (a0 : Nat) (h : g_X7_ticksTillQuiet F a0 = some (rx, F')) : PW X 0 0 F 0 [(0, .ref a0)] [] := by
  have hO := hX.1
  unfold g_X7_ticksTillQuiet at h
  refine pw_aload_n hO dX7_ticksTillQuiet_0 0 rfl ?_
  refine pw_getR hO dX7_ticksTillQuiet_1 fl_X7_30 h (fun q1 h => ?_)
  refine pw_aload_n hO dX7_ticksTillQuiet_4 0 rfl ?_
  refine pw_getR hO dX7_ticksTillQuiet_5 fl_X7_26 h (fun q2 h => ?_)
  refine pw_V0 (a := q1) (ci := 1) (as := [.ref q2]) (st := []) (d := 1) hO [.ref q2, .ref q1] dX7_ticksTillQuiet_8 vl_X7_84 h (fun F1 hg n => ct_X1_become hg) ⟨Nat.le_of_ble_eq_true rfl, Nat.le_of_ble_eq_true rfl⟩ ⟨Nat.zero_le _, Nat.zero_le _⟩ (Nat.le_of_ble_eq_true rfl) (fun _ _ => rfl) rfl (fun F3 h => ?_)
  refine pw_iconst hO dX7_ticksTillQuiet_11 (v := 0) (by decide) ?_
  refine pw_istore_n hO [(1, .int 0), (0, .ref a0)] dX7_ticksTillQuiet_12 (by decide) rfl ?_
  refine pw_sub (lv1 := [(0, .ref a0), (1, .int 0)]) [1, 0] rfl ?_
  exact bl_X7_ticksTillQuiet_b13 hX gF F3 a0 0 h
theorem ct_X7_ticksTillQuiet {n : Nat} {F : Hp} {a0 : Nat} {rx : Int32} {F' : Hp} (h : g_X7_ticksTillQuiet F a0 = some (rx, F')) : CT yX7_ticksTillQuiet cX7_ticksTillQuiet 2 (some FieldType.int) (rmd 3) n F [.ref a0] (some (.int rx)) F' :=
  ct_intro (own := RX7) (nm := false) (by decide) rfl (fun h => by cases h) (Nat.le_of_ble_eq_true rfl) (fun X hn hX => bl_X7_ticksTillQuiet hX F a0 h)
def g_X7_ask (F : Hp) (a0 : Nat) (a1 : Int32) : Option (Int32 × Hp) := (if a1 = 10 then (ckO F a0 7 (bnd2 (g_X7_ticksTillQuiet F a0) fun x9 F8 => some (x9, F8))) else (bnd2 (g_X7_isWithin F a1 0 9) fun x3 F2 => (if x3 = 0 then some ((-2), F2) else ((gR F2 a0 7 2).bind fun q5 => (ckO F2 q5 1 (bnd2 (g_X1_figure F2 q5 a1) fun x7 F6 => some (x7, F6)))))))
set_option maxHeartbeats 4000000 in
theorem bl_X7_ask {X : Cx} {rx : Int32} {F' : Hp} (hX : Md X cX7_ask RX7 2 (rmd 4) (some FieldType.int) false (some (.int rx)) F') (F : Hp) (a0 : Nat) (a1 : Int32) (h : g_X7_ask F a0 a1 = some (rx, F')) : PW X 0 0 F 0 [(0, .ref a0), (1, .int a1)] [] := by
  have hO := hX.1
  unfold g_X7_ask at h
  refine pw_iload_n hO dX7_ask_0 1 rfl ?_
  refine pw_bipush hO dX7_ask_1 (v := 10) (by decide) ?_
  refine pw_icmp_ne (tgt := 11) hO dX7_ask_3 (by decide) h (fun c1 h => ?_) (fun c1 h => ?_)
  · refine pw_iload_n hO dX7_ask_11 1 rfl ?_
    refine pw_iconst hO dX7_ask_12 (v := 0) (by decide) ?_
    refine pw_bipush hO dX7_ask_13 (v := 9) (by decide) ?_
    refine pw_SI (as := [.int a1, .int 0, .int 9]) (st := []) (d := 0) hO [.int 9, .int 0, .int a1] dX7_ask_15 sl_X7_61 h (fun r F1 hg n => ct_X7_isWithin hg) ⟨Nat.le_of_ble_eq_true rfl, Nat.le_of_ble_eq_true rfl⟩ ⟨Nat.zero_le _, Nat.zero_le _⟩ (Nat.le_of_ble_eq_true rfl) (fun _ _ => rfl) rfl (fun x3 F2 h => ?_)
    refine pw_if_eq (tgt := 32) hO dX7_ask_18 (by decide) h (fun c4 h => ?_) (fun c4 h => ?_)
    · refine pw_bipush hO dX7_ask_32 (v := (-2)) (by decide) ?_
      exact pw_iret hO hX.2 dX7_ask_34 h
    · refine pw_aload_n hO dX7_ask_21 0 rfl ?_
      refine pw_getR hO dX7_ask_22 fl_X7_26 h (fun q5 h => ?_)
      refine pw_iload_n hO dX7_ask_25 1 rfl ?_
      refine pw_VI (a := q5) (ci := 1) (as := [.int a1]) (st := []) (d := 2) hO [.int a1, .ref q5] dX7_ask_26 vl_X7_102 h (fun r F1 hg n => ct_X1_figure hg) ⟨Nat.le_of_ble_eq_true rfl, Nat.le_of_ble_eq_true rfl⟩ ⟨Nat.zero_le _, Nat.zero_le _⟩ (Nat.le_of_ble_eq_true rfl) (fun _ _ => rfl) rfl (fun x7 F6 h => ?_)
      refine pw_goto (tgt := 34) hO dX7_ask_29 (by decide) ?_
      exact pw_iret hO hX.2 dX7_ask_34 h
  · refine pw_aload_n hO dX7_ask_6 0 rfl ?_
    refine pw_VI (a := a0) (ci := 7) (as := []) (st := []) (d := 3) hO [.ref a0] dX7_ask_7 vl_X7_99 h (fun r F1 hg n => ct_X7_ticksTillQuiet hg) ⟨Nat.le_of_ble_eq_true rfl, Nat.le_of_ble_eq_true rfl⟩ ⟨Nat.zero_le _, Nat.zero_le _⟩ (Nat.le_of_ble_eq_true rfl) (fun _ _ => rfl) rfl (fun x9 F8 h => ?_)
    exact pw_iret hO hX.2 dX7_ask_10 h
theorem ct_X7_ask {n : Nat} {F : Hp} {a0 : Nat} {a1 : Int32} {rx : Int32} {F' : Hp} (h : g_X7_ask F a0 a1 = some (rx, F')) : CT yX7_ask cX7_ask 2 (some FieldType.int) (rmd 4) n F [.ref a0, .int a1] (some (.int rx)) F' :=
  ct_intro (own := RX7) (nm := false) (by decide) rfl (fun h => by cases h) (Nat.le_of_ble_eq_true rfl) (fun X hn hX => bl_X7_ask hX F a0 a1 h)
def g_X7_bestCount_b87 (rec7 : Hp → Nat → Int32 → Int32 → Int32 → Int32 → Option (Int32 × Hp)) (F : Hp) (v0 : Nat) (v1 : Int32) (v2 : Int32) (v3 : Int32) (v4 : Int32) : Option (Int32 × Hp) := rec7 F v0 v1 v2 v3 ((v4 + 1))
set_option maxHeartbeats 4000000 in
theorem bl_X7_bestCount_b87 {X : Cx} {rx : Int32} {F' : Hp} (hX : Md X cX7_bestCount RX7 6 (rmd 5) (some FieldType.int) false (some (.int rx)) F') (rec7 : Hp → Nat → Int32 → Int32 → Int32 → Int32 → Option (Int32 × Hp)) (hrec7 : ∀ (F : Hp) (v0 : Nat) (v1 : Int32) (v2 : Int32) (v3 : Int32) (v4 : Int32), rec7 F v0 v1 v2 v3 v4 = some (rx, F') → PW X 0 0 F 7 [(0, .ref v0), (1, .int v1), (2, .int v2), (3, .int v3), (4, .int v4)] []) (F : Hp) (v0 : Nat) (v1 : Int32) (v2 : Int32) (v3 : Int32) (v4 : Int32) (h : g_X7_bestCount_b87 rec7 F v0 v1 v2 v3 v4 = some (rx, F')) : PW X 0 0 F 87 [(0, .ref v0), (1, .int v1), (2, .int v2), (3, .int v3), (4, .int v4)] [] := by
  have hO := hX.1
  unfold g_X7_bestCount_b87 at h
  refine pw_iinc hO [(4, .int (v4 + 1)), (0, .ref v0), (1, .int v1), (2, .int v2), (3, .int v3)] dX7_bestCount_87 4 rfl rfl (by decide) rfl ?_
  refine pw_goto (tgt := 7) hO dX7_bestCount_90 (by decide) ?_
  refine pw_sub (lv1 := [(0, .ref v0), (1, .int v1), (2, .int v2), (3, .int v3), (4, .int (v4 + 1))]) [1, 2, 3, 4, 0] rfl ?_
  exact hrec7 F v0 v1 v2 v3 ((v4 + 1)) h
def g_X7_bestCount_b81 (rec7 : Hp → Nat → Int32 → Int32 → Int32 → Int32 → Option (Int32 × Hp)) (F : Hp) (v0 : Nat) (v1 : Int32) (v4 : Int32) (v5 : Int32) : Option (Int32 × Hp) := g_X7_bestCount_b87 rec7 F v0 v1 v4 v5 v4
set_option maxHeartbeats 4000000 in
theorem bl_X7_bestCount_b81 {X : Cx} {rx : Int32} {F' : Hp} (hX : Md X cX7_bestCount RX7 6 (rmd 5) (some FieldType.int) false (some (.int rx)) F') (rec7 : Hp → Nat → Int32 → Int32 → Int32 → Int32 → Option (Int32 × Hp)) (hrec7 : ∀ (F : Hp) (v0 : Nat) (v1 : Int32) (v2 : Int32) (v3 : Int32) (v4 : Int32), rec7 F v0 v1 v2 v3 v4 = some (rx, F') → PW X 0 0 F 7 [(0, .ref v0), (1, .int v1), (2, .int v2), (3, .int v3), (4, .int v4)] []) (F : Hp) (v0 : Nat) (v1 : Int32) (v4 : Int32) (v5 : Int32) (h : g_X7_bestCount_b81 rec7 F v0 v1 v4 v5 = some (rx, F')) : PW X 0 0 F 81 [(0, .ref v0), (1, .int v1), (4, .int v4), (5, .int v5)] [] := by
  have hO := hX.1
  unfold g_X7_bestCount_b81 at h
  refine pw_iload hO dX7_bestCount_81 2 rfl ?_
  refine pw_istore_n hO [(2, .int v4), (0, .ref v0), (1, .int v1), (4, .int v4), (5, .int v5)] dX7_bestCount_83 (by decide) rfl ?_
  refine pw_iload hO dX7_bestCount_84 4 rfl ?_
  refine pw_istore_n hO [(3, .int v5), (2, .int v4), (0, .ref v0), (1, .int v1), (4, .int v4), (5, .int v5)] dX7_bestCount_86 (by decide) rfl ?_
  refine pw_sub (lv1 := [(0, .ref v0), (1, .int v1), (2, .int v4), (3, .int v5), (4, .int v4)]) [2, 3, 1, 0, 4] rfl ?_
  exact bl_X7_bestCount_b87 hX rec7 hrec7 F v0 v1 v4 v5 v4 h
def g_X7_bestCount_b7 : Nat → Hp → Nat → Int32 → Int32 → Int32 → Int32 → Option (Int32 × Hp)
  | 0, _, _, _, _, _, _ => none
  | n + 1, F, v0, v1, v2, v3, v4 => (if 9 < v4 then some (v2, F) else ((gR F v0 7 3).bind fun q2 => ((gR F v0 7 1).bind fun q3 => ((gR F q3 2 0).bind fun q4 => (ckO F q2 1 ((g_X1_become F q2 q4).bind fun F5 => ((gR F5 v0 7 3).bind fun q7 => (ckO F5 q7 1 (bnd2 (g_X1_side F5 q7 v1) fun q9 F8 => ((pV F8 q9 3 1 (.int v4)).bind fun F10 => ((gR F10 v0 7 1).bind fun q11 => ((gR F10 v0 7 3).bind fun q12 => (ckO F10 q11 2 ((g_X2_perform F10 q11 q12 0).bind fun F13 => ((gR F13 v0 7 3).bind fun q15 => (ckO F13 q15 1 ((g_X1_settle F13 q15).bind fun F16 => ((gR F16 v0 7 3).bind fun q18 => (ckO F16 q18 1 (bnd2 (g_X1_price F16 q18) fun x20 F19 => (if v4 = 1 then g_X7_bestCount_b81 (g_X7_bestCount_b7 n) F19 v0 v1 v4 x20 else (if v3 ≤ x20 then g_X7_bestCount_b87 (g_X7_bestCount_b7 n) F19 v0 v1 v2 v3 v4 else g_X7_bestCount_b81 (g_X7_bestCount_b7 n) F19 v0 v1 v4 x20))))))))))))))))))))))
set_option maxHeartbeats 4000000 in
theorem bl_X7_bestCount_b7 {X : Cx} {rx : Int32} {F' : Hp} (hX : Md X cX7_bestCount RX7 6 (rmd 5) (some FieldType.int) false (some (.int rx)) F') : ∀ (n : Nat) (F : Hp) (v0 : Nat) (v1 : Int32) (v2 : Int32) (v3 : Int32) (v4 : Int32), g_X7_bestCount_b7 n F v0 v1 v2 v3 v4 = some (rx, F') → PW X 0 0 F 7 [(0, .ref v0), (1, .int v1), (2, .int v2), (3, .int v3), (4, .int v4)] [] := by
  have hO := hX.1
  intro n
  induction n with
  | zero => intro F v0 v1 v2 v3 v4 h; rw [g_X7_bestCount_b7] at h; cases h
  | succ n ih =>
    intro F v0 v1 v2 v3 v4 h
    rw [g_X7_bestCount_b7] at h
    refine pw_iload hO dX7_bestCount_7 4 rfl ?_
    refine pw_bipush hO dX7_bestCount_9 (v := 9) (by decide) ?_
    refine pw_icmp_gt (tgt := 93) hO dX7_bestCount_11 (by decide) h (fun c1 h => ?_) (fun c1 h => ?_)
    · refine pw_iload_n hO dX7_bestCount_93 2 rfl ?_
      exact pw_iret hO hX.2 dX7_bestCount_94 h
    · refine pw_aload_n hO dX7_bestCount_14 0 rfl ?_
      refine pw_getR hO dX7_bestCount_15 fl_X7_30 h (fun q2 h => ?_)
      refine pw_aload_n hO dX7_bestCount_18 0 rfl ?_
      refine pw_getR hO dX7_bestCount_19 fl_X7_19 h (fun q3 h => ?_)
      refine pw_getR hO dX7_bestCount_22 fl_X7_81 h (fun q4 h => ?_)
      refine pw_V0 (a := q2) (ci := 1) (as := [.ref q4]) (st := []) (d := 1) hO [.ref q4, .ref q2] dX7_bestCount_25 vl_X7_84 h (fun F1 hg n => ct_X1_become hg) ⟨Nat.le_of_ble_eq_true rfl, Nat.le_of_ble_eq_true rfl⟩ ⟨Nat.zero_le _, Nat.zero_le _⟩ (Nat.le_of_ble_eq_true rfl) (fun _ _ => rfl) rfl (fun F5 h => ?_)
      refine pw_aload_n hO dX7_bestCount_28 0 rfl ?_
      refine pw_getR hO dX7_bestCount_29 fl_X7_30 h (fun q7 h => ?_)
      refine pw_iload_n hO dX7_bestCount_32 1 rfl ?_
      refine pw_VR (a := q7) (ci := 1) (as := [.int v1]) (st := []) (d := 0) hO [.int v1, .ref q7] dX7_bestCount_33 vl_X7_109 h (fun r F1 hg n => ct_X1_side hg) ⟨Nat.le_of_ble_eq_true rfl, Nat.le_of_ble_eq_true rfl⟩ ⟨Nat.zero_le _, Nat.zero_le _⟩ (Nat.le_of_ble_eq_true rfl) (fun _ _ => rfl) rfl (fun q9 F8 h => ?_)
      refine pw_iload hO dX7_bestCount_36 4 rfl ?_
      refine pw_putI hO dX7_bestCount_38 fp_X7_118 h (fun F10 h => ?_)
      refine pw_aload_n hO dX7_bestCount_41 0 rfl ?_
      refine pw_getR hO dX7_bestCount_42 fl_X7_19 h (fun q11 h => ?_)
      refine pw_aload_n hO dX7_bestCount_45 0 rfl ?_
      refine pw_getR hO dX7_bestCount_46 fl_X7_30 h (fun q12 h => ?_)
      refine pw_iconst hO dX7_bestCount_49 (v := 0) (by decide) ?_
      refine pw_V0 (a := q11) (ci := 2) (as := [.ref q12, .int 0]) (st := []) (d := 4) hO [.int 0, .ref q12, .ref q11] dX7_bestCount_50 vl_X7_87 h (fun F1 hg n => ct_X2_perform hg) ⟨Nat.le_of_ble_eq_true rfl, Nat.le_of_ble_eq_true rfl⟩ ⟨Nat.zero_le _, Nat.zero_le _⟩ (Nat.le_of_ble_eq_true rfl) (fun _ _ => rfl) rfl (fun F13 h => ?_)
      refine pw_aload_n hO dX7_bestCount_53 0 rfl ?_
      refine pw_getR hO dX7_bestCount_54 fl_X7_30 h (fun q15 h => ?_)
      refine pw_V0 (a := q15) (ci := 1) (as := []) (st := []) (d := 3) hO [.ref q15] dX7_bestCount_57 vl_X7_168 h (fun F1 hg n => ct_X1_settle hg) ⟨Nat.le_of_ble_eq_true rfl, Nat.le_of_ble_eq_true rfl⟩ ⟨Nat.zero_le _, Nat.zero_le _⟩ (Nat.le_of_ble_eq_true rfl) (fun _ _ => rfl) rfl (fun F16 h => ?_)
      refine pw_aload_n hO dX7_bestCount_60 0 rfl ?_
      refine pw_getR hO dX7_bestCount_61 fl_X7_30 h (fun q18 h => ?_)
      refine pw_VI (a := q18) (ci := 1) (as := []) (st := []) (d := 0) hO [.ref q18] dX7_bestCount_64 vl_X7_171 h (fun r F1 hg n => ct_X1_price hg) ⟨Nat.le_of_ble_eq_true rfl, Nat.le_of_ble_eq_true rfl⟩ ⟨Nat.zero_le _, Nat.zero_le _⟩ (Nat.le_of_ble_eq_true rfl) (fun _ _ => rfl) rfl (fun x20 F19 h => ?_)
      refine pw_istore hO [(5, .int x20), (0, .ref v0), (1, .int v1), (2, .int v2), (3, .int v3), (4, .int v4)] dX7_bestCount_67 (by decide) rfl ?_
      refine pw_iload hO dX7_bestCount_69 5 rfl ?_
      refine pw_iconst hO dX7_bestCount_71 (v := 1) (by decide) ?_
      refine pw_icmp_eq (tgt := 81) hO dX7_bestCount_72 (by decide) h (fun c21 h => ?_) (fun c21 h => ?_)
      · refine pw_sub (lv1 := [(0, .ref v0), (1, .int v1), (4, .int v4), (5, .int x20)]) [1, 2, 5, 0] rfl ?_
        exact bl_X7_bestCount_b81 hX (g_X7_bestCount_b7 n) ih F19 v0 v1 v4 x20 h
      · refine pw_iload hO dX7_bestCount_75 0 rfl ?_
        refine pw_iload_n hO dX7_bestCount_77 4 rfl ?_
        refine pw_icmp_ge (tgt := 87) hO dX7_bestCount_78 (by decide) h (fun c22 h => ?_) (fun c22 h => ?_)
        · refine pw_sub (lv1 := [(0, .ref v0), (1, .int v1), (2, .int v2), (3, .int v3), (4, .int v4)]) [1, 2, 3, 4, 5] rfl ?_
          exact bl_X7_bestCount_b87 hX (g_X7_bestCount_b7 n) ih F19 v0 v1 v2 v3 v4 h
        · refine pw_sub (lv1 := [(0, .ref v0), (1, .int v1), (4, .int v4), (5, .int x20)]) [1, 2, 5, 0] rfl ?_
          exact bl_X7_bestCount_b81 hX (g_X7_bestCount_b7 n) ih F19 v0 v1 v4 x20 h
def g_X7_bestCount (F : Hp) (a0 : Nat) (a1 : Int32) : Option (Int32 × Hp) := g_X7_bestCount_b7 gF F a0 a1 1 0 1
set_option maxHeartbeats 4000000 in
theorem bl_X7_bestCount {X : Cx} {rx : Int32} {F' : Hp} (hX : Md X cX7_bestCount RX7 6 (rmd 5) (some FieldType.int) false (some (.int rx)) F') (F : Hp) (a0 : Nat) (a1 : Int32) (h : g_X7_bestCount F a0 a1 = some (rx, F')) : PW X 0 0 F 0 [(0, .ref a0), (1, .int a1)] [] := by
  have hO := hX.1
  unfold g_X7_bestCount at h
  refine pw_iconst hO dX7_bestCount_0 (v := 1) (by decide) ?_
  refine pw_istore_n hO [(2, .int 1), (0, .ref a0), (1, .int a1)] dX7_bestCount_1 (by decide) rfl ?_
  refine pw_iconst hO dX7_bestCount_2 (v := 0) (by decide) ?_
  refine pw_istore_n hO [(3, .int 0), (2, .int 1), (0, .ref a0), (1, .int a1)] dX7_bestCount_3 (by decide) rfl ?_
  refine pw_iconst hO dX7_bestCount_4 (v := 1) (by decide) ?_
  refine pw_istore hO [(4, .int 1), (3, .int 0), (2, .int 1), (0, .ref a0), (1, .int a1)] dX7_bestCount_5 (by decide) rfl ?_
  refine pw_sub (lv1 := [(0, .ref a0), (1, .int a1), (2, .int 1), (3, .int 0), (4, .int 1)]) [3, 4, 2, 1, 0] rfl ?_
  exact bl_X7_bestCount_b7 hX gF F a0 a1 1 0 1 h
theorem ct_X7_bestCount {n : Nat} {F : Hp} {a0 : Nat} {a1 : Int32} {rx : Int32} {F' : Hp} (h : g_X7_bestCount F a0 a1 = some (rx, F')) : CT yX7_bestCount cX7_bestCount 6 (some FieldType.int) (rmd 5) n F [.ref a0, .int a1] (some (.int rx)) F' :=
  ct_intro (own := RX7) (nm := false) (by decide) rfl (fun h => by cases h) (Nat.le_of_ble_eq_true rfl) (fun X hn hX => bl_X7_bestCount hX F a0 a1 h)
def g_X7_end (F : Hp) (a0 : Nat) (a1 : Int32) (a2 : Int32) : Option (Int32 × Hp) := (bnd2 (g_X7_isEnd F a1) fun x2 F1 => (if x2 = 0 then some ((-1), F1) else ((gR F1 a0 7 2).bind fun q4 => (ckO F1 q4 1 (bnd2 (g_X1_side F1 q4 a1) fun q6 F5 => (if a2 = 0 then ((gI F5 q6 3 0).bind fun x8 => some (x8, F5)) else (if a2 = 1 then ((gI F5 q6 3 1).bind fun x10 => some (x10, F5)) else (if a2 = 2 then ((gI F5 q6 3 2).bind fun x12 => some (x12, F5)) else (if a2 = 3 then ((gI F5 q6 3 3).bind fun x14 => some (x14, F5)) else (if a2 = 4 then ((gI F5 q6 3 4).bind fun x16 => some (x16, F5)) else (if a2 = 5 then ((gR F5 a0 7 2).bind fun q18 => ((gI F5 q18 1 8).bind fun x19 => (ckO F5 q6 3 (bnd2 (g_X3_isDue F5 q6 x19) fun x21 F20 => (if x21 = 0 then some (0, F20) else some (1, F20)))))) else (if a2 = 6 then (ckO F5 a0 7 (bnd2 (g_X7_bestCount F5 a0 a1) fun x25 F24 => some (x25, F24))) else some ((-2), F5)))))))))))))
set_option maxHeartbeats 4000000 in
theorem bl_X7_end {X : Cx} {rx : Int32} {F' : Hp} (hX : Md X cX7_end RX7 4 (rmd 6) (some FieldType.int) false (some (.int rx)) F') (F : Hp) (a0 : Nat) (a1 : Int32) (a2 : Int32) (h : g_X7_end F a0 a1 a2 = some (rx, F')) : PW X 0 0 F 0 [(0, .ref a0), (1, .int a1), (2, .int a2)] [] := by
  have hO := hX.1
  unfold g_X7_end at h
  refine pw_iload_n hO dX7_end_0 1 rfl ?_
  refine pw_SI (as := [.int a1]) (st := []) (d := 0) hO [.int a1] dX7_end_1 sl_X7_106 h (fun r F1 hg n => ct_X7_isEnd hg) ⟨Nat.le_of_ble_eq_true rfl, Nat.le_of_ble_eq_true rfl⟩ ⟨Nat.zero_le _, Nat.zero_le _⟩ (Nat.le_of_ble_eq_true rfl) (fun _ _ => rfl) rfl (fun x2 F1 h => ?_)
  refine pw_if_ne (tgt := 9) hO dX7_end_4 (by decide) h (fun c3 h => ?_) (fun c3 h => ?_)
  · refine pw_aload_n hO dX7_end_9 0 rfl ?_
    refine pw_getR hO dX7_end_10 fl_X7_26 h (fun q4 h => ?_)
    refine pw_iload_n hO dX7_end_13 1 rfl ?_
    refine pw_VR (a := q4) (ci := 1) (as := [.int a1]) (st := []) (d := 0) hO [.int a1, .ref q4] dX7_end_14 vl_X7_109 h (fun r F1 hg n => ct_X1_side hg) ⟨Nat.le_of_ble_eq_true rfl, Nat.le_of_ble_eq_true rfl⟩ ⟨Nat.zero_le _, Nat.zero_le _⟩ (Nat.le_of_ble_eq_true rfl) (fun _ _ => rfl) rfl (fun q6 F5 h => ?_)
    refine pw_astore_n hO [(3, .ref q6), (0, .ref a0), (1, .int a1), (2, .int a2)] dX7_end_17 (by decide) rfl ?_
    refine pw_iload_n hO dX7_end_18 3 rfl ?_
    refine pw_sw h (fun c7 h => ?_) (fun c7 h => ?_)
    · refine pw_tin (tgt := 60) hO dX7_end_19 c7 (by decide) (by decide) (by rfl) (by decide) ?_
      refine pw_aload_n hO dX7_end_60 0 rfl ?_
      refine pw_getI hO dX7_end_61 fl_X7_113 h (fun x8 h => ?_)
      exact pw_iret hO hX.2 dX7_end_64 h
    refine pw_sw h (fun c9 h => ?_) (fun c9 h => ?_)
    · refine pw_tin (tgt := 65) hO dX7_end_19 c9 (by decide) (by decide) (by rfl) (by decide) ?_
      refine pw_aload_n hO dX7_end_65 0 rfl ?_
      refine pw_getI hO dX7_end_66 fl_X7_118 h (fun x10 h => ?_)
      exact pw_iret hO hX.2 dX7_end_69 h
    refine pw_sw h (fun c11 h => ?_) (fun c11 h => ?_)
    · refine pw_tin (tgt := 70) hO dX7_end_19 c11 (by decide) (by decide) (by rfl) (by decide) ?_
      refine pw_aload_n hO dX7_end_70 0 rfl ?_
      refine pw_getI hO dX7_end_71 fl_X7_121 h (fun x12 h => ?_)
      exact pw_iret hO hX.2 dX7_end_74 h
    refine pw_sw h (fun c13 h => ?_) (fun c13 h => ?_)
    · refine pw_tin (tgt := 75) hO dX7_end_19 c13 (by decide) (by decide) (by rfl) (by decide) ?_
      refine pw_aload_n hO dX7_end_75 0 rfl ?_
      refine pw_getI hO dX7_end_76 fl_X7_124 h (fun x14 h => ?_)
      exact pw_iret hO hX.2 dX7_end_79 h
    refine pw_sw h (fun c15 h => ?_) (fun c15 h => ?_)
    · refine pw_tin (tgt := 80) hO dX7_end_19 c15 (by decide) (by decide) (by rfl) (by decide) ?_
      refine pw_aload_n hO dX7_end_80 0 rfl ?_
      refine pw_getI hO dX7_end_81 fl_X7_127 h (fun x16 h => ?_)
      exact pw_iret hO hX.2 dX7_end_84 h
    refine pw_sw h (fun c17 h => ?_) (fun c17 h => ?_)
    · refine pw_tin (tgt := 85) hO dX7_end_19 c17 (by decide) (by decide) (by rfl) (by decide) ?_
      refine pw_aload_n hO dX7_end_85 0 rfl ?_
      refine pw_aload_n hO dX7_end_86 1 rfl ?_
      refine pw_getR hO dX7_end_87 fl_X7_26 h (fun q18 h => ?_)
      refine pw_getI hO dX7_end_90 fl_X7_96 h (fun x19 h => ?_)
      refine pw_VI (a := q6) (ci := 3) (as := [.int x19]) (st := []) (d := 0) hO [.int x19, .ref q6] dX7_end_93 vl_X7_130 h (fun r F1 hg n => ct_X3_isDue hg) ⟨Nat.le_of_ble_eq_true rfl, Nat.le_of_ble_eq_true rfl⟩ ⟨Nat.zero_le _, Nat.zero_le _⟩ (Nat.le_of_ble_eq_true rfl) (fun _ _ => rfl) rfl (fun x21 F20 h => ?_)
      refine pw_if_eq (tgt := 103) hO dX7_end_96 (by decide) h (fun c22 h => ?_) (fun c22 h => ?_)
      · refine pw_iconst hO dX7_end_103 (v := 0) (by decide) ?_
        exact pw_iret hO hX.2 dX7_end_104 h
      · refine pw_iconst hO dX7_end_99 (v := 1) (by decide) ?_
        refine pw_goto (tgt := 104) hO dX7_end_100 (by decide) ?_
        exact pw_iret hO hX.2 dX7_end_104 h
    refine pw_sw h (fun c23 h => ?_) (fun c23 h => ?_)
    · refine pw_tin (tgt := 105) hO dX7_end_19 c23 (by decide) (by decide) (by rfl) (by decide) ?_
      refine pw_aload_n hO dX7_end_105 1 rfl ?_
      refine pw_iload_n hO dX7_end_106 2 rfl ?_
      refine pw_VI (a := a0) (ci := 7) (as := [.int a1]) (st := []) (d := 5) hO [.int a1, .ref a0] dX7_end_107 vl_X7_133 h (fun r F1 hg n => ct_X7_bestCount hg) ⟨Nat.le_of_ble_eq_true rfl, Nat.le_of_ble_eq_true rfl⟩ ⟨Nat.zero_le _, Nat.zero_le _⟩ (Nat.le_of_ble_eq_true rfl) (fun _ _ => rfl) rfl (fun x25 F24 h => ?_)
      exact pw_iret hO hX.2 dX7_end_110 h
    refine pw_tout (tgt := 111) hO dX7_end_19 (by have e0 := lv_neT (a := 0) c7 (by decide); have e1 := lv_neT (a := 1) c9 (by decide); have e2 := lv_neT (a := 2) c11 (by decide); have e3 := lv_neT (a := 3) c13 (by decide); have e4 := lv_neT (a := 4) c15 (by decide); have e5 := lv_neT (a := 5) c17 (by decide); have e6 := lv_neT (a := 6) c23 (by decide); omega) (by decide) ?_
    refine pw_bipush hO dX7_end_111 (v := (-2)) (by decide) ?_
    exact pw_iret hO hX.2 dX7_end_113 h
  · refine pw_iconst hO dX7_end_7 (v := (-1)) (by decide) ?_
    exact pw_iret hO hX.2 dX7_end_8 h
theorem ct_X7_end {n : Nat} {F : Hp} {a0 : Nat} {a1 : Int32} {a2 : Int32} {rx : Int32} {F' : Hp} (h : g_X7_end F a0 a1 a2 = some (rx, F')) : CT yX7_end cX7_end 4 (some FieldType.int) (rmd 6) n F [.ref a0, .int a1, .int a2] (some (.int rx)) F' :=
  ct_intro (own := RX7) (nm := false) (by decide) rfl (fun h => by cases h) (Nat.le_of_ble_eq_true rfl) (fun X hn hX => bl_X7_end hX F a0 a1 a2 h)
def g_X7_held (F : Hp) (a0 : Nat) (a1 : Int32) (a2 : Int32) : Option (Int32 × Hp) := (bnd2 (g_X7_isEnd F a1) fun x2 F1 => (if x2 = 0 then some ((-1), F1) else ((gR F1 a0 7 2).bind fun q4 => (ckO F1 q4 1 (bnd2 (g_X1_side F1 q4 a1) fun q6 F5 => (ckO F5 q6 3 (bnd2 (g_X3_letterAt F5 q6 a2) fun x8 F7 => some (x8, F7))))))))
set_option maxHeartbeats 4000000 in
theorem bl_X7_held {X : Cx} {rx : Int32} {F' : Hp} (hX : Md X cX7_held RX7 3 (rmd 1) (some FieldType.int) false (some (.int rx)) F') (F : Hp) (a0 : Nat) (a1 : Int32) (a2 : Int32) (h : g_X7_held F a0 a1 a2 = some (rx, F')) : PW X 0 0 F 0 [(0, .ref a0), (1, .int a1), (2, .int a2)] [] := by
  have hO := hX.1
  unfold g_X7_held at h
  refine pw_iload_n hO dX7_held_0 1 rfl ?_
  refine pw_SI (as := [.int a1]) (st := []) (d := 0) hO [.int a1] dX7_held_1 sl_X7_106 h (fun r F1 hg n => ct_X7_isEnd hg) ⟨Nat.le_of_ble_eq_true rfl, Nat.le_of_ble_eq_true rfl⟩ ⟨Nat.zero_le _, Nat.zero_le _⟩ (Nat.le_of_ble_eq_true rfl) (fun _ _ => rfl) rfl (fun x2 F1 h => ?_)
  refine pw_if_eq (tgt := 22) hO dX7_held_4 (by decide) h (fun c3 h => ?_) (fun c3 h => ?_)
  · refine pw_iconst hO dX7_held_22 (v := (-1)) (by decide) ?_
    exact pw_iret hO hX.2 dX7_held_23 h
  · refine pw_aload_n hO dX7_held_7 0 rfl ?_
    refine pw_getR hO dX7_held_8 fl_X7_26 h (fun q4 h => ?_)
    refine pw_iload_n hO dX7_held_11 1 rfl ?_
    refine pw_VR (a := q4) (ci := 1) (as := [.int a1]) (st := []) (d := 0) hO [.int a1, .ref q4] dX7_held_12 vl_X7_109 h (fun r F1 hg n => ct_X1_side hg) ⟨Nat.le_of_ble_eq_true rfl, Nat.le_of_ble_eq_true rfl⟩ ⟨Nat.zero_le _, Nat.zero_le _⟩ (Nat.le_of_ble_eq_true rfl) (fun _ _ => rfl) rfl (fun q6 F5 h => ?_)
    refine pw_iload_n hO dX7_held_15 2 rfl ?_
    refine pw_VI (a := q6) (ci := 3) (as := [.int a2]) (st := []) (d := 0) hO [.int a2, .ref q6] dX7_held_16 vl_X7_136 h (fun r F1 hg n => ct_X3_letterAt hg) ⟨Nat.le_of_ble_eq_true rfl, Nat.le_of_ble_eq_true rfl⟩ ⟨Nat.zero_le _, Nat.zero_le _⟩ (Nat.le_of_ble_eq_true rfl) (fun _ _ => rfl) rfl (fun x8 F7 h => ?_)
    refine pw_goto (tgt := 23) hO dX7_held_19 (by decide) ?_
    exact pw_iret hO hX.2 dX7_held_23 h
theorem ct_X7_held {n : Nat} {F : Hp} {a0 : Nat} {a1 : Int32} {a2 : Int32} {rx : Int32} {F' : Hp} (h : g_X7_held F a0 a1 a2 = some (rx, F')) : CT yX7_held cX7_held 3 (some FieldType.int) (rmd 1) n F [.ref a0, .int a1, .int a2] (some (.int rx)) F' :=
  ct_intro (own := RX7) (nm := false) (by decide) rfl (fun h => by cases h) (Nat.le_of_ble_eq_true rfl) (fun X hn hX => bl_X7_held hX F a0 a1 a2 h)
def g_X7_come (F : Hp) (a0 : Nat) (a1 : Int32) : Option (Int32 × Hp) := (bnd2 (g_X7_isEnd F a1) fun x2 F1 => (if x2 = 0 then some ((-1), F1) else ((gR F1 a0 7 2).bind fun q4 => (ckO F1 q4 1 (bnd2 (g_X1_side F1 q4 a1) fun q6 F5 => (ckO F5 q6 3 (bnd2 (g_X3_isFull F5 q6) fun x8 F7 => (if x8 = 0 then ((gR F7 a0 7 4).bind fun q10 => ((gR F7 a0 7 2).bind fun q11 => (ckO F7 q10 0 ((g_X0_add F7 q10 q11).bind fun F12 => ((gR F12 a0 7 2).bind fun q14 => (ckO F12 q14 1 (bnd2 (g_X1_receive F12 q14 a1 0) fun x16 F15 => ((gI F15 q6 3 4).bind fun x17 => some (x17, F15))))))))) else some ((-4), F7)))))))))
set_option maxHeartbeats 4000000 in
theorem bl_X7_come {X : Cx} {rx : Int32} {F' : Hp} (hX : Md X cX7_come RX7 3 (rmd 3) (some FieldType.int) false (some (.int rx)) F') (F : Hp) (a0 : Nat) (a1 : Int32) (h : g_X7_come F a0 a1 = some (rx, F')) : PW X 0 0 F 0 [(0, .ref a0), (1, .int a1)] [] := by
  have hO := hX.1
  unfold g_X7_come at h
  refine pw_iload_n hO dX7_come_0 1 rfl ?_
  refine pw_SI (as := [.int a1]) (st := []) (d := 0) hO [.int a1] dX7_come_1 sl_X7_106 h (fun r F1 hg n => ct_X7_isEnd hg) ⟨Nat.le_of_ble_eq_true rfl, Nat.le_of_ble_eq_true rfl⟩ ⟨Nat.zero_le _, Nat.zero_le _⟩ (Nat.le_of_ble_eq_true rfl) (fun _ _ => rfl) rfl (fun x2 F1 h => ?_)
  refine pw_if_ne (tgt := 9) hO dX7_come_4 (by decide) h (fun c3 h => ?_) (fun c3 h => ?_)
  · refine pw_aload_n hO dX7_come_9 0 rfl ?_
    refine pw_getR hO dX7_come_10 fl_X7_26 h (fun q4 h => ?_)
    refine pw_iload_n hO dX7_come_13 1 rfl ?_
    refine pw_VR (a := q4) (ci := 1) (as := [.int a1]) (st := []) (d := 0) hO [.int a1, .ref q4] dX7_come_14 vl_X7_109 h (fun r F1 hg n => ct_X1_side hg) ⟨Nat.le_of_ble_eq_true rfl, Nat.le_of_ble_eq_true rfl⟩ ⟨Nat.zero_le _, Nat.zero_le _⟩ (Nat.le_of_ble_eq_true rfl) (fun _ _ => rfl) rfl (fun q6 F5 h => ?_)
    refine pw_astore_n hO [(2, .ref q6), (0, .ref a0), (1, .int a1)] dX7_come_17 (by decide) rfl ?_
    refine pw_aload_n hO dX7_come_18 0 rfl ?_
    refine pw_VI (a := q6) (ci := 3) (as := []) (st := []) (d := 0) hO [.ref q6] dX7_come_19 vl_X7_139 h (fun r F1 hg n => ct_X3_isFull hg) ⟨Nat.le_of_ble_eq_true rfl, Nat.le_of_ble_eq_true rfl⟩ ⟨Nat.zero_le _, Nat.zero_le _⟩ (Nat.le_of_ble_eq_true rfl) (fun _ _ => rfl) rfl (fun x8 F7 h => ?_)
    refine pw_if_eq (tgt := 28) hO dX7_come_22 (by decide) h (fun c9 h => ?_) (fun c9 h => ?_)
    · refine pw_aload_n hO dX7_come_28 1 rfl ?_
      refine pw_getR hO dX7_come_29 fl_X7_36 h (fun q10 h => ?_)
      refine pw_aload_n hO dX7_come_32 1 rfl ?_
      refine pw_getR hO dX7_come_33 fl_X7_26 h (fun q11 h => ?_)
      refine pw_V0 (a := q10) (ci := 0) (as := [.ref q11]) (st := []) (d := 2) hO [.ref q11, .ref q10] dX7_come_36 vl_X7_143 h (fun F1 hg n => ct_X0_add hg) ⟨Nat.le_of_ble_eq_true rfl, Nat.le_of_ble_eq_true rfl⟩ ⟨Nat.zero_le _, Nat.zero_le _⟩ (Nat.le_of_ble_eq_true rfl) (fun _ _ => rfl) rfl (fun F12 h => ?_)
      refine pw_aload_n hO dX7_come_39 1 rfl ?_
      refine pw_getR hO dX7_come_40 fl_X7_26 h (fun q14 h => ?_)
      refine pw_iload_n hO dX7_come_43 2 rfl ?_
      refine pw_iconst hO dX7_come_44 (v := 0) (by decide) ?_
      refine pw_VI (a := q14) (ci := 1) (as := [.int a1, .int 0]) (st := []) (d := 1) hO [.int 0, .int a1, .ref q14] dX7_come_45 vl_X7_146 h (fun r F1 hg n => ct_X1_receive hg) ⟨Nat.le_of_ble_eq_true rfl, Nat.le_of_ble_eq_true rfl⟩ ⟨Nat.zero_le _, Nat.zero_le _⟩ (Nat.le_of_ble_eq_true rfl) (fun _ _ => rfl) rfl (fun x16 F15 h => ?_)
      refine pw_pop hO dX7_come_48 rfl ?_
      refine pw_aload_n hO dX7_come_49 0 rfl ?_
      refine pw_getI hO dX7_come_50 fl_X7_127 h (fun x17 h => ?_)
      exact pw_iret hO hX.2 dX7_come_53 h
    · refine pw_bipush hO dX7_come_25 (v := (-4)) (by decide) ?_
      exact pw_iret hO hX.2 dX7_come_27 h
  · refine pw_iconst hO dX7_come_7 (v := (-1)) (by decide) ?_
    exact pw_iret hO hX.2 dX7_come_8 h
theorem ct_X7_come {n : Nat} {F : Hp} {a0 : Nat} {a1 : Int32} {rx : Int32} {F' : Hp} (h : g_X7_come F a0 a1 = some (rx, F')) : CT yX7_come cX7_come 3 (some FieldType.int) (rmd 3) n F [.ref a0, .int a1] (some (.int rx)) F' :=
  ct_intro (own := RX7) (nm := false) (by decide) rfl (fun h => by cases h) (Nat.le_of_ble_eq_true rfl) (fun X hn hX => bl_X7_come hX F a0 a1 h)
def g_X7_pass (F : Hp) (a0 : Nat) (a1 : Int32) : Option (Int32 × Hp) := (bnd2 (g_X7_isWithin F a1 1 20) fun x2 F1 => (if x2 = 0 then some ((-2), F1) else ((gR F1 a0 7 4).bind fun q4 => ((gR F1 a0 7 2).bind fun q5 => (ckO F1 q4 0 ((g_X0_add F1 q4 q5).bind fun F6 => ((gR F6 a0 7 2).bind fun q8 => (ckO F6 q8 1 ((g_X1_elapse F6 q8 a1).bind fun F9 => ((gR F9 a0 7 2).bind fun q11 => ((gI F9 q11 1 8).bind fun x12 => some (x12, F9))))))))))))
set_option maxHeartbeats 4000000 in
theorem bl_X7_pass {X : Cx} {rx : Int32} {F' : Hp} (hX : Md X cX7_pass RX7 2 (rmd 4) (some FieldType.int) false (some (.int rx)) F') (F : Hp) (a0 : Nat) (a1 : Int32) (h : g_X7_pass F a0 a1 = some (rx, F')) : PW X 0 0 F 0 [(0, .ref a0), (1, .int a1)] [] := by
  have hO := hX.1
  unfold g_X7_pass at h
  refine pw_iload_n hO dX7_pass_0 1 rfl ?_
  refine pw_iconst hO dX7_pass_1 (v := 1) (by decide) ?_
  refine pw_bipush hO dX7_pass_2 (v := 20) (by decide) ?_
  refine pw_SI (as := [.int a1, .int 1, .int 20]) (st := []) (d := 0) hO [.int 20, .int 1, .int a1] dX7_pass_4 sl_X7_61 h (fun r F1 hg n => ct_X7_isWithin hg) ⟨Nat.le_of_ble_eq_true rfl, Nat.le_of_ble_eq_true rfl⟩ ⟨Nat.zero_le _, Nat.zero_le _⟩ (Nat.le_of_ble_eq_true rfl) (fun _ _ => rfl) rfl (fun x2 F1 h => ?_)
  refine pw_if_ne (tgt := 13) hO dX7_pass_7 (by decide) h (fun c3 h => ?_) (fun c3 h => ?_)
  · refine pw_aload_n hO dX7_pass_13 0 rfl ?_
    refine pw_getR hO dX7_pass_14 fl_X7_36 h (fun q4 h => ?_)
    refine pw_aload_n hO dX7_pass_17 0 rfl ?_
    refine pw_getR hO dX7_pass_18 fl_X7_26 h (fun q5 h => ?_)
    refine pw_V0 (a := q4) (ci := 0) (as := [.ref q5]) (st := []) (d := 2) hO [.ref q5, .ref q4] dX7_pass_21 vl_X7_143 h (fun F1 hg n => ct_X0_add hg) ⟨Nat.le_of_ble_eq_true rfl, Nat.le_of_ble_eq_true rfl⟩ ⟨Nat.zero_le _, Nat.zero_le _⟩ (Nat.le_of_ble_eq_true rfl) (fun _ _ => rfl) rfl (fun F6 h => ?_)
    refine pw_aload_n hO dX7_pass_24 0 rfl ?_
    refine pw_getR hO dX7_pass_25 fl_X7_26 h (fun q8 h => ?_)
    refine pw_iload_n hO dX7_pass_28 1 rfl ?_
    refine pw_V0 (a := q8) (ci := 1) (as := [.int a1]) (st := []) (d := 3) hO [.int a1, .ref q8] dX7_pass_29 vl_X7_150 h (fun F1 hg n => ct_X1_elapse hg) ⟨Nat.le_of_ble_eq_true rfl, Nat.le_of_ble_eq_true rfl⟩ ⟨Nat.zero_le _, Nat.zero_le _⟩ (Nat.le_of_ble_eq_true rfl) (fun _ _ => rfl) rfl (fun F9 h => ?_)
    refine pw_aload_n hO dX7_pass_32 0 rfl ?_
    refine pw_getR hO dX7_pass_33 fl_X7_26 h (fun q11 h => ?_)
    refine pw_getI hO dX7_pass_36 fl_X7_96 h (fun x12 h => ?_)
    exact pw_iret hO hX.2 dX7_pass_39 h
  · refine pw_bipush hO dX7_pass_10 (v := (-2)) (by decide) ?_
    exact pw_iret hO hX.2 dX7_pass_12 h
theorem ct_X7_pass {n : Nat} {F : Hp} {a0 : Nat} {a1 : Int32} {rx : Int32} {F' : Hp} (h : g_X7_pass F a0 a1 = some (rx, F')) : CT yX7_pass cX7_pass 2 (some FieldType.int) (rmd 4) n F [.ref a0, .int a1] (some (.int rx)) F' :=
  ct_intro (own := RX7) (nm := false) (by decide) rfl (fun h => by cases h) (Nat.le_of_ble_eq_true rfl) (fun X hn hX => bl_X7_pass hX F a0 a1 h)
def g_X7_tell_b49 (F : Hp) (v0 : Nat) (v1 : Int32) (v2 : Int32) (v3 : Int32) : Option (Int32 × Hp) := ((gR F v0 7 4).bind fun q11 => ((gR F v0 7 2).bind fun q12 => (ckO F q11 0 ((g_X0_add F q11 q12).bind fun F13 => ((gR F13 v0 7 2).bind fun q15 => (ckO F13 q15 1 (bnd2 (g_X1_retell F13 q15 v1 v2 v3) fun x17 F16 => some (x17, F16))))))))
set_option maxHeartbeats 4000000 in
theorem bl_X7_tell_b49 {X : Cx} {rx : Int32} {F' : Hp} (hX : Md X cX7_tell RX7 4 (rmd 3) (some FieldType.int) false (some (.int rx)) F') (F : Hp) (v0 : Nat) (v1 : Int32) (v2 : Int32) (v3 : Int32) (h : g_X7_tell_b49 F v0 v1 v2 v3 = some (rx, F')) : PW X 0 0 F 49 [(0, .ref v0), (1, .int v1), (2, .int v2), (3, .int v3)] [] := by
  have hO := hX.1
  unfold g_X7_tell_b49 at h
  refine pw_aload_n hO dX7_tell_49 0 rfl ?_
  refine pw_getR hO dX7_tell_50 fl_X7_36 h (fun q11 h => ?_)
  refine pw_aload_n hO dX7_tell_53 0 rfl ?_
  refine pw_getR hO dX7_tell_54 fl_X7_26 h (fun q12 h => ?_)
  refine pw_V0 (a := q11) (ci := 0) (as := [.ref q12]) (st := []) (d := 2) hO [.ref q12, .ref q11] dX7_tell_57 vl_X7_143 h (fun F1 hg n => ct_X0_add hg) ⟨Nat.le_of_ble_eq_true rfl, Nat.le_of_ble_eq_true rfl⟩ ⟨Nat.zero_le _, Nat.zero_le _⟩ (Nat.le_of_ble_eq_true rfl) (fun _ _ => rfl) rfl (fun F13 h => ?_)
  refine pw_aload_n hO dX7_tell_60 0 rfl ?_
  refine pw_getR hO dX7_tell_61 fl_X7_26 h (fun q15 h => ?_)
  refine pw_iload_n hO dX7_tell_64 1 rfl ?_
  refine pw_iload_n hO dX7_tell_65 2 rfl ?_
  refine pw_iload_n hO dX7_tell_66 3 rfl ?_
  refine pw_VI (a := q15) (ci := 1) (as := [.int v1, .int v2, .int v3]) (st := []) (d := 2) hO [.int v3, .int v2, .int v1, .ref q15] dX7_tell_67 vl_X7_157 h (fun r F1 hg n => ct_X1_retell hg) ⟨Nat.le_of_ble_eq_true rfl, Nat.le_of_ble_eq_true rfl⟩ ⟨Nat.zero_le _, Nat.zero_le _⟩ (Nat.le_of_ble_eq_true rfl) (fun _ _ => rfl) rfl (fun x17 F16 h => ?_)
  exact pw_iret hO hX.2 dX7_tell_70 h
def g_X7_tell (F : Hp) (a0 : Nat) (a1 : Int32) (a2 : Int32) (a3 : Int32) : Option (Int32 × Hp) := (bnd2 (g_X7_isEnd F a1) fun x2 F1 => (if x2 = 0 then some ((-1), F1) else (bnd2 (g_X7_isWithin F1 a2 0 2) fun x5 F4 => (if x5 = 0 then some ((-2), F4) else (bnd2 (g_X7_isFigure F4 a3) fun x8 F7 => (if x8 = 0 then some ((-2), F7) else (if a2 = 0 then ((gR F7 a0 7 2).bind fun q18 => (ckO F7 q18 1 (bnd2 (g_X1_side F7 q18 a1) fun q20 F19 => (ckO F19 q20 3 (bnd2 (g_X3_isFull F19 q20) fun x22 F21 => (if x22 = 0 then g_X7_tell_b49 F21 a0 a1 a2 a3 else some ((-4), F21))))))) else g_X7_tell_b49 F7 a0 a1 a2 a3)))))))
set_option maxHeartbeats 4000000 in
theorem bl_X7_tell {X : Cx} {rx : Int32} {F' : Hp} (hX : Md X cX7_tell RX7 4 (rmd 3) (some FieldType.int) false (some (.int rx)) F') (F : Hp) (a0 : Nat) (a1 : Int32) (a2 : Int32) (a3 : Int32) (h : g_X7_tell F a0 a1 a2 a3 = some (rx, F')) : PW X 0 0 F 0 [(0, .ref a0), (1, .int a1), (2, .int a2), (3, .int a3)] [] := by
  have hO := hX.1
  unfold g_X7_tell at h
  refine pw_iload_n hO dX7_tell_0 1 rfl ?_
  refine pw_SI (as := [.int a1]) (st := []) (d := 0) hO [.int a1] dX7_tell_1 sl_X7_106 h (fun r F1 hg n => ct_X7_isEnd hg) ⟨Nat.le_of_ble_eq_true rfl, Nat.le_of_ble_eq_true rfl⟩ ⟨Nat.zero_le _, Nat.zero_le _⟩ (Nat.le_of_ble_eq_true rfl) (fun _ _ => rfl) rfl (fun x2 F1 h => ?_)
  refine pw_if_ne (tgt := 9) hO dX7_tell_4 (by decide) h (fun c3 h => ?_) (fun c3 h => ?_)
  · refine pw_iload_n hO dX7_tell_9 2 rfl ?_
    refine pw_iconst hO dX7_tell_10 (v := 0) (by decide) ?_
    refine pw_iconst hO dX7_tell_11 (v := 2) (by decide) ?_
    refine pw_SI (as := [.int a2, .int 0, .int 2]) (st := []) (d := 0) hO [.int 2, .int 0, .int a2] dX7_tell_12 sl_X7_61 h (fun r F1 hg n => ct_X7_isWithin hg) ⟨Nat.le_of_ble_eq_true rfl, Nat.le_of_ble_eq_true rfl⟩ ⟨Nat.zero_le _, Nat.zero_le _⟩ (Nat.le_of_ble_eq_true rfl) (fun _ _ => rfl) rfl (fun x5 F4 h => ?_)
    refine pw_if_eq (tgt := 25) hO dX7_tell_15 (by decide) h (fun c6 h => ?_) (fun c6 h => ?_)
    · refine pw_bipush hO dX7_tell_25 (v := (-2)) (by decide) ?_
      exact pw_iret hO hX.2 dX7_tell_27 h
    · refine pw_iload_n hO dX7_tell_18 3 rfl ?_
      refine pw_SI (as := [.int a3]) (st := []) (d := 0) hO [.int a3] dX7_tell_19 sl_X7_154 h (fun r F1 hg n => ct_X7_isFigure hg) ⟨Nat.le_of_ble_eq_true rfl, Nat.le_of_ble_eq_true rfl⟩ ⟨Nat.zero_le _, Nat.zero_le _⟩ (Nat.le_of_ble_eq_true rfl) (fun _ _ => rfl) rfl (fun x8 F7 h => ?_)
      refine pw_if_ne (tgt := 28) hO dX7_tell_22 (by decide) h (fun c9 h => ?_) (fun c9 h => ?_)
      · refine pw_iload_n hO dX7_tell_28 2 rfl ?_
        refine pw_if_ne (tgt := 49) hO dX7_tell_29 (by decide) h (fun c10 h => ?_) (fun c10 h => ?_)
        · refine pw_sub (lv1 := [(0, .ref a0), (1, .int a1), (2, .int a2), (3, .int a3)]) [0, 1, 2, 3] rfl ?_
          exact bl_X7_tell_b49 hX F7 a0 a1 a2 a3 h
        · refine pw_aload_n hO dX7_tell_32 0 rfl ?_
          refine pw_getR hO dX7_tell_33 fl_X7_26 h (fun q18 h => ?_)
          refine pw_iload_n hO dX7_tell_36 1 rfl ?_
          refine pw_VR (a := q18) (ci := 1) (as := [.int a1]) (st := []) (d := 0) hO [.int a1, .ref q18] dX7_tell_37 vl_X7_109 h (fun r F1 hg n => ct_X1_side hg) ⟨Nat.le_of_ble_eq_true rfl, Nat.le_of_ble_eq_true rfl⟩ ⟨Nat.zero_le _, Nat.zero_le _⟩ (Nat.le_of_ble_eq_true rfl) (fun _ _ => rfl) rfl (fun q20 F19 h => ?_)
          refine pw_VI (a := q20) (ci := 3) (as := []) (st := []) (d := 0) hO [.ref q20] dX7_tell_40 vl_X7_139 h (fun r F1 hg n => ct_X3_isFull hg) ⟨Nat.le_of_ble_eq_true rfl, Nat.le_of_ble_eq_true rfl⟩ ⟨Nat.zero_le _, Nat.zero_le _⟩ (Nat.le_of_ble_eq_true rfl) (fun _ _ => rfl) rfl (fun x22 F21 h => ?_)
          refine pw_if_eq (tgt := 49) hO dX7_tell_43 (by decide) h (fun c23 h => ?_) (fun c23 h => ?_)
          · refine pw_sub (lv1 := [(0, .ref a0), (1, .int a1), (2, .int a2), (3, .int a3)]) [0, 1, 2, 3] rfl ?_
            exact bl_X7_tell_b49 hX F21 a0 a1 a2 a3 h
          · refine pw_bipush hO dX7_tell_46 (v := (-4)) (by decide) ?_
            exact pw_iret hO hX.2 dX7_tell_48 h
      · refine pw_bipush hO dX7_tell_25 (v := (-2)) (by decide) ?_
        exact pw_iret hO hX.2 dX7_tell_27 h
  · refine pw_iconst hO dX7_tell_7 (v := (-1)) (by decide) ?_
    exact pw_iret hO hX.2 dX7_tell_8 h
theorem ct_X7_tell {n : Nat} {F : Hp} {a0 : Nat} {a1 : Int32} {a2 : Int32} {a3 : Int32} {rx : Int32} {F' : Hp} (h : g_X7_tell F a0 a1 a2 a3 = some (rx, F')) : CT yX7_tell cX7_tell 4 (some FieldType.int) (rmd 3) n F [.ref a0, .int a1, .int a2, .int a3] (some (.int rx)) F' :=
  ct_intro (own := RX7) (nm := false) (by decide) rfl (fun h => by cases h) (Nat.le_of_ble_eq_true rfl) (fun X hn hX => bl_X7_tell hX F a0 a1 a2 a3 h)
def g_X7_undo (F : Hp) (a0 : Nat) : Option (Int32 × Hp) := ((gR F a0 7 4).bind fun q1 => ((gR F a0 7 2).bind fun q2 => (ckO F q1 0 (bnd2 (g_X0_takeBack F q1 q2) fun x4 F3 => (if x4 = 0 then some ((-3), F3) else ((gR F3 a0 7 4).bind fun q6 => ((gI F3 q6 0 1).bind fun x7 => some (x7, F3))))))))
set_option maxHeartbeats 4000000 in
theorem bl_X7_undo {X : Cx} {rx : Int32} {F' : Hp} (hX : Md X cX7_undo RX7 1 (rmd 3) (some FieldType.int) false (some (.int rx)) F') (F : Hp) (a0 : Nat) (h : g_X7_undo F a0 = some (rx, F')) : PW X 0 0 F 0 [(0, .ref a0)] [] := by
  have hO := hX.1
  unfold g_X7_undo at h
  refine pw_aload_n hO dX7_undo_0 0 rfl ?_
  refine pw_getR hO dX7_undo_1 fl_X7_36 h (fun q1 h => ?_)
  refine pw_aload_n hO dX7_undo_4 0 rfl ?_
  refine pw_getR hO dX7_undo_5 fl_X7_26 h (fun q2 h => ?_)
  refine pw_VI (a := q1) (ci := 0) (as := [.ref q2]) (st := []) (d := 2) hO [.ref q2, .ref q1] dX7_undo_8 vl_X7_161 h (fun r F1 hg n => ct_X0_takeBack hg) ⟨Nat.le_of_ble_eq_true rfl, Nat.le_of_ble_eq_true rfl⟩ ⟨Nat.zero_le _, Nat.zero_le _⟩ (Nat.le_of_ble_eq_true rfl) (fun _ _ => rfl) rfl (fun x4 F3 h => ?_)
  refine pw_if_eq (tgt := 24) hO dX7_undo_11 (by decide) h (fun c5 h => ?_) (fun c5 h => ?_)
  · refine pw_bipush hO dX7_undo_24 (v := (-3)) (by decide) ?_
    exact pw_iret hO hX.2 dX7_undo_26 h
  · refine pw_aload_n hO dX7_undo_14 0 rfl ?_
    refine pw_getR hO dX7_undo_15 fl_X7_36 h (fun q6 h => ?_)
    refine pw_getI hO dX7_undo_18 fl_X7_91 h (fun x7 h => ?_)
    refine pw_goto (tgt := 26) hO dX7_undo_21 (by decide) ?_
    exact pw_iret hO hX.2 dX7_undo_26 h
theorem ct_X7_undo {n : Nat} {F : Hp} {a0 : Nat} {rx : Int32} {F' : Hp} (h : g_X7_undo F a0 = some (rx, F')) : CT yX7_undo cX7_undo 1 (some FieldType.int) (rmd 3) n F [.ref a0] (some (.int rx)) F' :=
  ct_intro (own := RX7) (nm := false) (by decide) rfl (fun h => by cases h) (Nat.le_of_ble_eq_true rfl) (fun X hn hX => bl_X7_undo hX F a0 h)
def g_X7_ahead (F : Hp) (a0 : Nat) (a1 : Int32) (a2 : Int32) : Option (Int32 × Hp) := (bnd2 (g_X7_isWithin F a1 0 99) fun x2 F1 => (if x2 = 0 then some ((-2), F1) else (bnd2 (g_X7_isWithin F1 a2 0 9) fun x5 F4 => (if x5 = 0 then some ((-2), F4) else ((gR F4 a0 7 3).bind fun q7 => ((gR F4 a0 7 2).bind fun q8 => (ckO F4 q7 1 ((g_X1_become F4 q7 q8).bind fun F9 => ((gR F9 a0 7 3).bind fun q11 => (ckO F9 q11 1 ((g_X1_elapse F9 q11 a1).bind fun F12 => ((gR F12 a0 7 3).bind fun q14 => (ckO F12 q14 1 (bnd2 (g_X1_figure F12 q14 a2) fun x16 F15 => some (x16, F15)))))))))))))))
set_option maxHeartbeats 4000000 in
theorem bl_X7_ahead {X : Cx} {rx : Int32} {F' : Hp} (hX : Md X cX7_ahead RX7 3 (rmd 4) (some FieldType.int) false (some (.int rx)) F') (F : Hp) (a0 : Nat) (a1 : Int32) (a2 : Int32) (h : g_X7_ahead F a0 a1 a2 = some (rx, F')) : PW X 0 0 F 0 [(0, .ref a0), (1, .int a1), (2, .int a2)] [] := by
  have hO := hX.1
  unfold g_X7_ahead at h
  refine pw_iload_n hO dX7_ahead_0 1 rfl ?_
  refine pw_iconst hO dX7_ahead_1 (v := 0) (by decide) ?_
  refine pw_bipush hO dX7_ahead_2 (v := 99) (by decide) ?_
  refine pw_SI (as := [.int a1, .int 0, .int 99]) (st := []) (d := 0) hO [.int 99, .int 0, .int a1] dX7_ahead_4 sl_X7_61 h (fun r F1 hg n => ct_X7_isWithin hg) ⟨Nat.le_of_ble_eq_true rfl, Nat.le_of_ble_eq_true rfl⟩ ⟨Nat.zero_le _, Nat.zero_le _⟩ (Nat.le_of_ble_eq_true rfl) (fun _ _ => rfl) rfl (fun x2 F1 h => ?_)
  refine pw_if_eq (tgt := 20) hO dX7_ahead_7 (by decide) h (fun c3 h => ?_) (fun c3 h => ?_)
  · refine pw_bipush hO dX7_ahead_20 (v := (-2)) (by decide) ?_
    exact pw_iret hO hX.2 dX7_ahead_22 h
  · refine pw_iload_n hO dX7_ahead_10 2 rfl ?_
    refine pw_iconst hO dX7_ahead_11 (v := 0) (by decide) ?_
    refine pw_bipush hO dX7_ahead_12 (v := 9) (by decide) ?_
    refine pw_SI (as := [.int a2, .int 0, .int 9]) (st := []) (d := 0) hO [.int 9, .int 0, .int a2] dX7_ahead_14 sl_X7_61 h (fun r F1 hg n => ct_X7_isWithin hg) ⟨Nat.le_of_ble_eq_true rfl, Nat.le_of_ble_eq_true rfl⟩ ⟨Nat.zero_le _, Nat.zero_le _⟩ (Nat.le_of_ble_eq_true rfl) (fun _ _ => rfl) rfl (fun x5 F4 h => ?_)
    refine pw_if_ne (tgt := 23) hO dX7_ahead_17 (by decide) h (fun c6 h => ?_) (fun c6 h => ?_)
    · refine pw_aload_n hO dX7_ahead_23 0 rfl ?_
      refine pw_getR hO dX7_ahead_24 fl_X7_30 h (fun q7 h => ?_)
      refine pw_aload_n hO dX7_ahead_27 0 rfl ?_
      refine pw_getR hO dX7_ahead_28 fl_X7_26 h (fun q8 h => ?_)
      refine pw_V0 (a := q7) (ci := 1) (as := [.ref q8]) (st := []) (d := 1) hO [.ref q8, .ref q7] dX7_ahead_31 vl_X7_84 h (fun F1 hg n => ct_X1_become hg) ⟨Nat.le_of_ble_eq_true rfl, Nat.le_of_ble_eq_true rfl⟩ ⟨Nat.zero_le _, Nat.zero_le _⟩ (Nat.le_of_ble_eq_true rfl) (fun _ _ => rfl) rfl (fun F9 h => ?_)
      refine pw_aload_n hO dX7_ahead_34 0 rfl ?_
      refine pw_getR hO dX7_ahead_35 fl_X7_30 h (fun q11 h => ?_)
      refine pw_iload_n hO dX7_ahead_38 1 rfl ?_
      refine pw_V0 (a := q11) (ci := 1) (as := [.int a1]) (st := []) (d := 3) hO [.int a1, .ref q11] dX7_ahead_39 vl_X7_150 h (fun F1 hg n => ct_X1_elapse hg) ⟨Nat.le_of_ble_eq_true rfl, Nat.le_of_ble_eq_true rfl⟩ ⟨Nat.zero_le _, Nat.zero_le _⟩ (Nat.le_of_ble_eq_true rfl) (fun _ _ => rfl) rfl (fun F12 h => ?_)
      refine pw_aload_n hO dX7_ahead_42 0 rfl ?_
      refine pw_getR hO dX7_ahead_43 fl_X7_30 h (fun q14 h => ?_)
      refine pw_iload_n hO dX7_ahead_46 2 rfl ?_
      refine pw_VI (a := q14) (ci := 1) (as := [.int a2]) (st := []) (d := 2) hO [.int a2, .ref q14] dX7_ahead_47 vl_X7_102 h (fun r F1 hg n => ct_X1_figure hg) ⟨Nat.le_of_ble_eq_true rfl, Nat.le_of_ble_eq_true rfl⟩ ⟨Nat.zero_le _, Nat.zero_le _⟩ (Nat.le_of_ble_eq_true rfl) (fun _ _ => rfl) rfl (fun x16 F15 h => ?_)
      exact pw_iret hO hX.2 dX7_ahead_50 h
    · refine pw_bipush hO dX7_ahead_20 (v := (-2)) (by decide) ?_
      exact pw_iret hO hX.2 dX7_ahead_22 h
theorem ct_X7_ahead {n : Nat} {F : Hp} {a0 : Nat} {a1 : Int32} {a2 : Int32} {rx : Int32} {F' : Hp} (h : g_X7_ahead F a0 a1 a2 = some (rx, F')) : CT yX7_ahead cX7_ahead 3 (some FieldType.int) (rmd 4) n F [.ref a0, .int a1, .int a2] (some (.int rx)) F' :=
  ct_intro (own := RX7) (nm := false) (by decide) rfl (fun h => by cases h) (Nat.le_of_ble_eq_true rfl) (fun X hn hX => bl_X7_ahead hX F a0 a1 a2 h)
def g_X7_play (F : Hp) (a0 : Nat) (a1 : Int32) : Option (Int32 × Hp) := (bnd2 (g_X7_isWithin F a1 0 5) fun x2 F1 => (if x2 = 0 then some ((-2), F1) else (if a1 = 5 then ((gR F1 a0 7 1).bind fun q32 => (ckO F1 q32 2 (bnd2 (g_X2_letters F1 q32) fun x34 F33 => some (x34, F33)))) else ((gR F1 a0 7 3).bind fun q5 => ((gR F1 a0 7 1).bind fun q6 => ((gR F1 q6 2 0).bind fun q7 => (ckO F1 q5 1 ((g_X1_become F1 q5 q7).bind fun F8 => ((gR F8 a0 7 1).bind fun q10 => ((gR F8 a0 7 3).bind fun q11 => (ckO F8 q10 2 ((g_X2_perform F8 q10 q11 0).bind fun F12 => ((gR F12 a0 7 3).bind fun q14 => (ckO F12 q14 1 ((g_X1_settle F12 q14).bind fun F15 => (if a1 = 0 then ((gR F15 a0 7 3).bind fun q18 => (ckO F15 q18 1 (bnd2 (g_X1_price F15 q18) fun x20 F19 => some (x20, F19)))) else (if a1 = 1 then ((gR F15 a0 7 3).bind fun q22 => ((gI F15 q22 1 9).bind fun x23 => some (x23, F15))) else (if a1 = 2 then ((gR F15 a0 7 3).bind fun q25 => ((gI F15 q25 1 11).bind fun x26 => some (x26, F15))) else (if a1 = 3 then ((gR F15 a0 7 3).bind fun q28 => ((gI F15 q28 1 13).bind fun x29 => some (x29, F15))) else ((gR F15 a0 7 3).bind fun q30 => ((gI F15 q30 1 8).bind fun x31 => some (x31, F15))))))))))))))))))))))
set_option maxHeartbeats 4000000 in
theorem bl_X7_play {X : Cx} {rx : Int32} {F' : Hp} (hX : Md X cX7_play RX7 2 (rmd 5) (some FieldType.int) false (some (.int rx)) F') (F : Hp) (a0 : Nat) (a1 : Int32) (h : g_X7_play F a0 a1 = some (rx, F')) : PW X 0 0 F 0 [(0, .ref a0), (1, .int a1)] [] := by
  have hO := hX.1
  unfold g_X7_play at h
  refine pw_iload_n hO dX7_play_0 1 rfl ?_
  refine pw_iconst hO dX7_play_1 (v := 0) (by decide) ?_
  refine pw_iconst hO dX7_play_2 (v := 5) (by decide) ?_
  refine pw_SI (as := [.int a1, .int 0, .int 5]) (st := []) (d := 0) hO [.int 5, .int 0, .int a1] dX7_play_3 sl_X7_61 h (fun r F1 hg n => ct_X7_isWithin hg) ⟨Nat.le_of_ble_eq_true rfl, Nat.le_of_ble_eq_true rfl⟩ ⟨Nat.zero_le _, Nat.zero_le _⟩ (Nat.le_of_ble_eq_true rfl) (fun _ _ => rfl) rfl (fun x2 F1 h => ?_)
  refine pw_if_ne (tgt := 12) hO dX7_play_6 (by decide) h (fun c3 h => ?_) (fun c3 h => ?_)
  · refine pw_iload_n hO dX7_play_12 1 rfl ?_
    refine pw_iconst hO dX7_play_13 (v := 5) (by decide) ?_
    refine pw_icmp_ne (tgt := 25) hO dX7_play_14 (by decide) h (fun c4 h => ?_) (fun c4 h => ?_)
    · refine pw_aload_n hO dX7_play_25 0 rfl ?_
      refine pw_getR hO dX7_play_26 fl_X7_30 h (fun q5 h => ?_)
      refine pw_aload_n hO dX7_play_29 0 rfl ?_
      refine pw_getR hO dX7_play_30 fl_X7_19 h (fun q6 h => ?_)
      refine pw_getR hO dX7_play_33 fl_X7_81 h (fun q7 h => ?_)
      refine pw_V0 (a := q5) (ci := 1) (as := [.ref q7]) (st := []) (d := 1) hO [.ref q7, .ref q5] dX7_play_36 vl_X7_84 h (fun F1 hg n => ct_X1_become hg) ⟨Nat.le_of_ble_eq_true rfl, Nat.le_of_ble_eq_true rfl⟩ ⟨Nat.zero_le _, Nat.zero_le _⟩ (Nat.le_of_ble_eq_true rfl) (fun _ _ => rfl) rfl (fun F8 h => ?_)
      refine pw_aload_n hO dX7_play_39 0 rfl ?_
      refine pw_getR hO dX7_play_40 fl_X7_19 h (fun q10 h => ?_)
      refine pw_aload_n hO dX7_play_43 0 rfl ?_
      refine pw_getR hO dX7_play_44 fl_X7_30 h (fun q11 h => ?_)
      refine pw_iconst hO dX7_play_47 (v := 0) (by decide) ?_
      refine pw_V0 (a := q10) (ci := 2) (as := [.ref q11, .int 0]) (st := []) (d := 4) hO [.int 0, .ref q11, .ref q10] dX7_play_48 vl_X7_87 h (fun F1 hg n => ct_X2_perform hg) ⟨Nat.le_of_ble_eq_true rfl, Nat.le_of_ble_eq_true rfl⟩ ⟨Nat.zero_le _, Nat.zero_le _⟩ (Nat.le_of_ble_eq_true rfl) (fun _ _ => rfl) rfl (fun F12 h => ?_)
      refine pw_aload_n hO dX7_play_51 0 rfl ?_
      refine pw_getR hO dX7_play_52 fl_X7_30 h (fun q14 h => ?_)
      refine pw_V0 (a := q14) (ci := 1) (as := []) (st := []) (d := 3) hO [.ref q14] dX7_play_55 vl_X7_168 h (fun F1 hg n => ct_X1_settle hg) ⟨Nat.le_of_ble_eq_true rfl, Nat.le_of_ble_eq_true rfl⟩ ⟨Nat.zero_le _, Nat.zero_le _⟩ (Nat.le_of_ble_eq_true rfl) (fun _ _ => rfl) rfl (fun F15 h => ?_)
      refine pw_iload_n hO dX7_play_58 1 rfl ?_
      refine pw_sw h (fun c17 h => ?_) (fun c17 h => ?_)
      · refine pw_tin (tgt := 88) hO dX7_play_59 c17 (by decide) (by decide) (by rfl) (by decide) ?_
        refine pw_aload_n hO dX7_play_88 0 rfl ?_
        refine pw_getR hO dX7_play_89 fl_X7_30 h (fun q18 h => ?_)
        refine pw_VI (a := q18) (ci := 1) (as := []) (st := []) (d := 0) hO [.ref q18] dX7_play_92 vl_X7_171 h (fun r F1 hg n => ct_X1_price hg) ⟨Nat.le_of_ble_eq_true rfl, Nat.le_of_ble_eq_true rfl⟩ ⟨Nat.zero_le _, Nat.zero_le _⟩ (Nat.le_of_ble_eq_true rfl) (fun _ _ => rfl) rfl (fun x20 F19 h => ?_)
        exact pw_iret hO hX.2 dX7_play_95 h
      refine pw_sw h (fun c21 h => ?_) (fun c21 h => ?_)
      · refine pw_tin (tgt := 96) hO dX7_play_59 c21 (by decide) (by decide) (by rfl) (by decide) ?_
        refine pw_aload_n hO dX7_play_96 0 rfl ?_
        refine pw_getR hO dX7_play_97 fl_X7_30 h (fun q22 h => ?_)
        refine pw_getI hO dX7_play_100 fl_X7_174 h (fun x23 h => ?_)
        exact pw_iret hO hX.2 dX7_play_103 h
      refine pw_sw h (fun c24 h => ?_) (fun c24 h => ?_)
      · refine pw_tin (tgt := 104) hO dX7_play_59 c24 (by decide) (by decide) (by rfl) (by decide) ?_
        refine pw_aload_n hO dX7_play_104 0 rfl ?_
        refine pw_getR hO dX7_play_105 fl_X7_30 h (fun q25 h => ?_)
        refine pw_getI hO dX7_play_108 fl_X7_177 h (fun x26 h => ?_)
        exact pw_iret hO hX.2 dX7_play_111 h
      refine pw_sw h (fun c27 h => ?_) (fun c27 h => ?_)
      · refine pw_tin (tgt := 112) hO dX7_play_59 c27 (by decide) (by decide) (by rfl) (by decide) ?_
        refine pw_aload_n hO dX7_play_112 0 rfl ?_
        refine pw_getR hO dX7_play_113 fl_X7_30 h (fun q28 h => ?_)
        refine pw_getI hO dX7_play_116 fl_X7_180 h (fun x29 h => ?_)
        exact pw_iret hO hX.2 dX7_play_119 h
      refine pw_tout (tgt := 120) hO dX7_play_59 (by have e0 := lv_neT (a := 0) c17 (by decide); have e1 := lv_neT (a := 1) c21 (by decide); have e2 := lv_neT (a := 2) c24 (by decide); have e3 := lv_neT (a := 3) c27 (by decide); omega) (by decide) ?_
      refine pw_aload_n hO dX7_play_120 0 rfl ?_
      refine pw_getR hO dX7_play_121 fl_X7_30 h (fun q30 h => ?_)
      refine pw_getI hO dX7_play_124 fl_X7_96 h (fun x31 h => ?_)
      exact pw_iret hO hX.2 dX7_play_127 h
    · refine pw_aload_n hO dX7_play_17 0 rfl ?_
      refine pw_getR hO dX7_play_18 fl_X7_19 h (fun q32 h => ?_)
      refine pw_VI (a := q32) (ci := 2) (as := []) (st := []) (d := 1) hO [.ref q32] dX7_play_21 vl_X7_165 h (fun r F1 hg n => ct_X2_letters hg) ⟨Nat.le_of_ble_eq_true rfl, Nat.le_of_ble_eq_true rfl⟩ ⟨Nat.zero_le _, Nat.zero_le _⟩ (Nat.le_of_ble_eq_true rfl) (fun _ _ => rfl) rfl (fun x34 F33 h => ?_)
      exact pw_iret hO hX.2 dX7_play_24 h
  · refine pw_bipush hO dX7_play_9 (v := (-2)) (by decide) ?_
    exact pw_iret hO hX.2 dX7_play_11 h
theorem ct_X7_play {n : Nat} {F : Hp} {a0 : Nat} {a1 : Int32} {rx : Int32} {F' : Hp} (h : g_X7_play F a0 a1 = some (rx, F')) : CT yX7_play cX7_play 2 (some FieldType.int) (rmd 5) n F [.ref a0, .int a1] (some (.int rx)) F' :=
  ct_intro (own := RX7) (nm := false) (by decide) rfl (fun h => by cases h) (Nat.le_of_ble_eq_true rfl) (fun X hn hX => bl_X7_play hX F a0 a1 h)
def g_X7_judge_b71 : Nat → Hp → Nat → Int32 → Int64 → Int64 → Int32 → Option (Int32 × Hp)
  | 0, _, _, _, _, _, _ => none
  | n + 1, F, v0, v1, v4, v6, v8 => (if v1 ≤ v8 then some ((-9), F) else (if (lg_cmp v4 (1000 : Int64)) < 0 then some ((-9), F) else ((gR F v0 7 3).bind fun q13 => (if (v4 / (1000 : Int64)) = 0 then none else (ckO F q13 1 (bnd2 (g_X1_admits F q13 (Int64.toInt32 (v6 / (v4 / (1000 : Int64))))) fun x15 F14 => (if x15 = 0 then some (v8, F14) else (if (v4 / (1000 : Int64)) = 0 then none else g_X7_judge_b71 n F14 v0 v1 ((v4 / (1000 : Int64))) ((jreml v6 (v4 / (1000 : Int64)))) ((v8 + 1))))))))))
set_option maxHeartbeats 4000000 in
theorem bl_X7_judge_b71 {X : Cx} {rx : Int32} {F' : Hp} (hX : Md X cX7_judge RX7 9 (rmd 6) (some FieldType.int) false (some (.int rx)) F') : ∀ (n : Nat) (F : Hp) (v0 : Nat) (v1 : Int32) (v4 : Int64) (v6 : Int64) (v8 : Int32), g_X7_judge_b71 n F v0 v1 v4 v6 v8 = some (rx, F') → PW X 0 0 F 71 [(0, .ref v0), (1, .int v1), (4, .long v4), (6, .long v6), (8, .int v8)] [] := by
  have hO := hX.1
  intro n
  induction n with
  | zero => intro F v0 v1 v4 v6 v8 h; rw [g_X7_judge_b71] at h; cases h
  | succ n ih =>
    intro F v0 v1 v4 v6 v8 h
    rw [g_X7_judge_b71] at h
    refine pw_iload hO dX7_judge_71 4 rfl ?_
    refine pw_iload_n hO dX7_judge_73 1 rfl ?_
    refine pw_icmp_ge (tgt := 126) hO dX7_judge_74 (by decide) h (fun c11 h => ?_) (fun c11 h => ?_)
    · refine pw_bipush hO dX7_judge_126 (v := (-9)) (by decide) ?_
      exact pw_iret hO hX.2 dX7_judge_128 h
    · refine pw_lload hO dX7_judge_77 2 rfl ?_
      refine pw_ldc2 hO dX7_judge_79 kl_X7_183 ?_
      refine pw_lcmp hO dX7_judge_82 ?_
      refine pw_if_lt (tgt := 126) hO dX7_judge_83 (by decide) h (fun c12 h => ?_) (fun c12 h => ?_)
      · refine pw_bipush hO dX7_judge_126 (v := (-9)) (by decide) ?_
        exact pw_iret hO hX.2 dX7_judge_128 h
      · refine pw_lload hO dX7_judge_86 2 rfl ?_
        refine pw_ldc2 hO dX7_judge_88 kl_X7_183 ?_
        refine pw_ldivc hO dX7_judge_91 (by decide) ?_
        refine pw_lstore hO [(4, .long (v4 / (1000 : Int64))), (0, .ref v0), (1, .int v1), (6, .long v6), (8, .int v8)] dX7_judge_92 (by decide) rfl ?_
        refine pw_aload_n hO dX7_judge_94 1 rfl ?_
        refine pw_getR hO dX7_judge_95 fl_X7_30 h (fun q13 h => ?_)
        refine pw_lload hO dX7_judge_98 3 rfl ?_
        refine pw_lload hO dX7_judge_100 0 rfl ?_
        refine pw_ldiv hO dX7_judge_102 h (fun h => ?_)
        refine pw_l2i hO dX7_judge_103 ?_
        refine pw_VI (a := q13) (ci := 1) (as := [.int (Int64.toInt32 (v6 / (v4 / (1000 : Int64))))]) (st := []) (d := 5) hO [.int (Int64.toInt32 (v6 / (v4 / (1000 : Int64)))), .ref q13] dX7_judge_104 vl_X7_185 h (fun r F1 hg n => ct_X1_admits hg) ⟨Nat.le_of_ble_eq_true rfl, Nat.le_of_ble_eq_true rfl⟩ ⟨Nat.zero_le _, Nat.zero_le _⟩ (Nat.le_of_ble_eq_true rfl) (fun _ _ => rfl) rfl (fun x15 F14 h => ?_)
        refine pw_if_ne (tgt := 113) hO dX7_judge_107 (by decide) h (fun c16 h => ?_) (fun c16 h => ?_)
        · refine pw_lload hO dX7_judge_113 3 rfl ?_
          refine pw_lload hO dX7_judge_115 0 rfl ?_
          refine pw_lrem hO dX7_judge_117 h (fun h => ?_)
          refine pw_lstore hO [(6, .long (jreml v6 (v4 / (1000 : Int64)))), (4, .long (v4 / (1000 : Int64))), (0, .ref v0), (1, .int v1), (8, .int v8)] dX7_judge_118 (by decide) rfl ?_
          refine pw_iinc hO [(8, .int (v8 + 1)), (6, .long (jreml v6 (v4 / (1000 : Int64)))), (4, .long (v4 / (1000 : Int64))), (0, .ref v0), (1, .int v1)] dX7_judge_120 4 rfl rfl (by decide) rfl ?_
          refine pw_goto (tgt := 71) hO dX7_judge_123 (by decide) ?_
          refine pw_sub (lv1 := [(0, .ref v0), (1, .int v1), (4, .long (v4 / (1000 : Int64))), (6, .long (jreml v6 (v4 / (1000 : Int64)))), (8, .int (v8 + 1))]) [3, 4, 2, 1, 0] rfl ?_
          exact ih F14 v0 v1 ((v4 / (1000 : Int64))) ((jreml v6 (v4 / (1000 : Int64)))) ((v8 + 1)) h
        · refine pw_iload hO dX7_judge_110 4 rfl ?_
          exact pw_iret hO hX.2 dX7_judge_112 h
def g_X7_judge_b18 : Nat → Hp → Nat → Int32 → Int64 → Int64 → Int32 → Option (Int32 × Hp)
  | 0, _, _, _, _, _, _ => none
  | n + 1, F, v0, v1, v2, v4, v6 => (if v1 ≤ v6 then (if (lg_cmp v2 (0 : Int64)) < 0 then some ((-2), F) else (if (lg_cmp v2 v4) < 0 then ((gR F v0 7 3).bind fun q7 => ((gR F v0 7 2).bind fun q8 => (ckO F q7 1 ((g_X1_become F q7 q8).bind fun F9 => g_X7_judge_b71 gF F9 v0 v1 v4 v2 0)))) else some ((-2), F))) else g_X7_judge_b18 n F v0 v1 v2 ((v4 * (1000 : Int64))) ((v6 + 1)))
set_option maxHeartbeats 4000000 in
theorem bl_X7_judge_b18 {X : Cx} {rx : Int32} {F' : Hp} (hX : Md X cX7_judge RX7 9 (rmd 6) (some FieldType.int) false (some (.int rx)) F') : ∀ (n : Nat) (F : Hp) (v0 : Nat) (v1 : Int32) (v2 : Int64) (v4 : Int64) (v6 : Int32), g_X7_judge_b18 n F v0 v1 v2 v4 v6 = some (rx, F') → PW X 0 0 F 18 [(0, .ref v0), (1, .int v1), (2, .long v2), (4, .long v4), (6, .int v6)] [] := by
  have hO := hX.1
  intro n
  induction n with
  | zero => intro F v0 v1 v2 v4 v6 h; rw [g_X7_judge_b18] at h; cases h
  | succ n ih =>
    intro F v0 v1 v2 v4 v6 h
    rw [g_X7_judge_b18] at h
    refine pw_iload hO dX7_judge_18 4 rfl ?_
    refine pw_iload_n hO dX7_judge_20 1 rfl ?_
    refine pw_icmp_ge (tgt := 38) hO dX7_judge_21 (by decide) h (fun c4 h => ?_) (fun c4 h => ?_)
    · refine pw_lload_n hO dX7_judge_38 2 rfl ?_
      refine pw_lconst hO dX7_judge_39 (v := (0 : Int64)) (by decide) ?_
      refine pw_lcmp hO dX7_judge_40 ?_
      refine pw_if_lt (tgt := 51) hO dX7_judge_41 (by decide) h (fun c5 h => ?_) (fun c5 h => ?_)
      · refine pw_bipush hO dX7_judge_51 (v := (-2)) (by decide) ?_
        exact pw_iret hO hX.2 dX7_judge_53 h
      · refine pw_lload_n hO dX7_judge_44 2 rfl ?_
        refine pw_lload hO dX7_judge_45 3 rfl ?_
        refine pw_lcmp hO dX7_judge_47 ?_
        refine pw_if_lt (tgt := 54) hO dX7_judge_48 (by decide) h (fun c6 h => ?_) (fun c6 h => ?_)
        · refine pw_aload_n hO dX7_judge_54 0 rfl ?_
          refine pw_getR hO dX7_judge_55 fl_X7_30 h (fun q7 h => ?_)
          refine pw_aload_n hO dX7_judge_58 0 rfl ?_
          refine pw_getR hO dX7_judge_59 fl_X7_26 h (fun q8 h => ?_)
          refine pw_V0 (a := q7) (ci := 1) (as := [.ref q8]) (st := []) (d := 1) hO [.ref q8, .ref q7] dX7_judge_62 vl_X7_84 h (fun F1 hg n => ct_X1_become hg) ⟨Nat.le_of_ble_eq_true rfl, Nat.le_of_ble_eq_true rfl⟩ ⟨Nat.zero_le _, Nat.zero_le _⟩ (Nat.le_of_ble_eq_true rfl) (fun _ _ => rfl) rfl (fun F9 h => ?_)
          refine pw_lload_n hO dX7_judge_65 2 rfl ?_
          refine pw_lstore hO [(6, .long v2), (0, .ref v0), (1, .int v1), (2, .long v2), (4, .long v4)] dX7_judge_66 (by decide) rfl ?_
          refine pw_iconst hO dX7_judge_68 (v := 0) (by decide) ?_
          refine pw_istore hO [(8, .int 0), (6, .long v2), (0, .ref v0), (1, .int v1), (2, .long v2), (4, .long v4)] dX7_judge_69 (by decide) rfl ?_
          refine pw_sub (lv1 := [(0, .ref v0), (1, .int v1), (4, .long v4), (6, .long v2), (8, .int 0)]) [2, 3, 5, 1, 0] rfl ?_
          exact bl_X7_judge_b71 hX gF F9 v0 v1 v4 v2 0 h
        · refine pw_bipush hO dX7_judge_51 (v := (-2)) (by decide) ?_
          exact pw_iret hO hX.2 dX7_judge_53 h
    · refine pw_lload hO dX7_judge_24 3 rfl ?_
      refine pw_ldc2 hO dX7_judge_26 kl_X7_183 ?_
      refine pw_lmul hO dX7_judge_29 ?_
      refine pw_lstore hO [(4, .long (v4 * (1000 : Int64))), (0, .ref v0), (1, .int v1), (2, .long v2), (6, .int v6)] dX7_judge_30 (by decide) rfl ?_
      refine pw_iinc hO [(6, .int (v6 + 1)), (4, .long (v4 * (1000 : Int64))), (0, .ref v0), (1, .int v1), (2, .long v2)] dX7_judge_32 4 rfl rfl (by decide) rfl ?_
      refine pw_goto (tgt := 18) hO dX7_judge_35 (by decide) ?_
      refine pw_sub (lv1 := [(0, .ref v0), (1, .int v1), (2, .long v2), (4, .long (v4 * (1000 : Int64))), (6, .int (v6 + 1))]) [2, 3, 4, 1, 0] rfl ?_
      exact ih F v0 v1 v2 ((v4 * (1000 : Int64))) ((v6 + 1)) h
def g_X7_judge (F : Hp) (a0 : Nat) (a1 : Int32) (a2 : Int64) : Option (Int32 × Hp) := (bnd2 (g_X7_isWithin F a1 1 4) fun x2 F1 => (if x2 = 0 then some ((-2), F1) else g_X7_judge_b18 gF F1 a0 a1 a2 ((1 : Int64)) 0))
set_option maxHeartbeats 4000000 in
theorem bl_X7_judge {X : Cx} {rx : Int32} {F' : Hp} (hX : Md X cX7_judge RX7 9 (rmd 6) (some FieldType.int) false (some (.int rx)) F') (F : Hp) (a0 : Nat) (a1 : Int32) (a2 : Int64) (h : g_X7_judge F a0 a1 a2 = some (rx, F')) : PW X 0 0 F 0 [(0, .ref a0), (1, .int a1), (2, .long a2)] [] := by
  have hO := hX.1
  unfold g_X7_judge at h
  refine pw_iload_n hO dX7_judge_0 1 rfl ?_
  refine pw_iconst hO dX7_judge_1 (v := 1) (by decide) ?_
  refine pw_iconst hO dX7_judge_2 (v := 4) (by decide) ?_
  refine pw_SI (as := [.int a1, .int 1, .int 4]) (st := []) (d := 0) hO [.int 4, .int 1, .int a1] dX7_judge_3 sl_X7_61 h (fun r F1 hg n => ct_X7_isWithin hg) ⟨Nat.le_of_ble_eq_true rfl, Nat.le_of_ble_eq_true rfl⟩ ⟨Nat.zero_le _, Nat.zero_le _⟩ (Nat.le_of_ble_eq_true rfl) (fun _ _ => rfl) rfl (fun x2 F1 h => ?_)
  refine pw_if_ne (tgt := 12) hO dX7_judge_6 (by decide) h (fun c3 h => ?_) (fun c3 h => ?_)
  · refine pw_lconst hO dX7_judge_12 (v := (1 : Int64)) (by decide) ?_
    refine pw_lstore hO [(4, .long (1 : Int64)), (0, .ref a0), (1, .int a1), (2, .long a2)] dX7_judge_13 (by decide) rfl ?_
    refine pw_iconst hO dX7_judge_15 (v := 0) (by decide) ?_
    refine pw_istore hO [(6, .int 0), (4, .long (1 : Int64)), (0, .ref a0), (1, .int a1), (2, .long a2)] dX7_judge_16 (by decide) rfl ?_
    refine pw_sub (lv1 := [(0, .ref a0), (1, .int a1), (2, .long a2), (4, .long (1 : Int64)), (6, .int 0)]) [2, 3, 4, 1, 0] rfl ?_
    exact bl_X7_judge_b18 hX gF F1 a0 a1 a2 ((1 : Int64)) 0 h
  · refine pw_bipush hO dX7_judge_9 (v := (-2)) (by decide) ?_
    exact pw_iret hO hX.2 dX7_judge_11 h
theorem ct_X7_judge {n : Nat} {F : Hp} {a0 : Nat} {a1 : Int32} {a2 : Int64} {rx : Int32} {F' : Hp} (h : g_X7_judge F a0 a1 a2 = some (rx, F')) : CT yX7_judge cX7_judge 9 (some FieldType.int) (rmd 6) n F [.ref a0, .int a1, .long a2] (some (.int rx)) F' :=
  ct_intro (own := RX7) (nm := false) (by decide) rfl (fun h => by cases h) (Nat.le_of_ble_eq_true rfl) (fun X hn hX => bl_X7_judge hX F a0 a1 a2 h)
def g_X7_see (F : Hp) (a0 : Nat) (a1 : Int32) (a2 : Int32) : Option (Int32 × Hp) := (bnd2 (g_X7_isWithin F a1 0 99) fun x2 F1 => (if x2 = 0 then some ((-2), F1) else (bnd2 (g_X7_isWithin F1 a2 0 3) fun x5 F4 => (if x5 = 0 then some ((-2), F4) else ((gR F4 a0 7 5).bind fun q7 => (ckO F4 q7 4 (bnd2 (g_X4_add F4 q7 a1 a2) fun x9 F8 => (if x9 = 0 then some ((-4), F8) else ((gR F8 a0 7 5).bind fun q11 => ((gI F8 q11 4 2).bind fun x12 => some (x12, F8)))))))))))
set_option maxHeartbeats 4000000 in
theorem bl_X7_see {X : Cx} {rx : Int32} {F' : Hp} (hX : Md X cX7_see RX7 3 (rmd 1) (some FieldType.int) false (some (.int rx)) F') (F : Hp) (a0 : Nat) (a1 : Int32) (a2 : Int32) (h : g_X7_see F a0 a1 a2 = some (rx, F')) : PW X 0 0 F 0 [(0, .ref a0), (1, .int a1), (2, .int a2)] [] := by
  have hO := hX.1
  unfold g_X7_see at h
  refine pw_iload_n hO dX7_see_0 1 rfl ?_
  refine pw_iconst hO dX7_see_1 (v := 0) (by decide) ?_
  refine pw_bipush hO dX7_see_2 (v := 99) (by decide) ?_
  refine pw_SI (as := [.int a1, .int 0, .int 99]) (st := []) (d := 0) hO [.int 99, .int 0, .int a1] dX7_see_4 sl_X7_61 h (fun r F1 hg n => ct_X7_isWithin hg) ⟨Nat.le_of_ble_eq_true rfl, Nat.le_of_ble_eq_true rfl⟩ ⟨Nat.zero_le _, Nat.zero_le _⟩ (Nat.le_of_ble_eq_true rfl) (fun _ _ => rfl) rfl (fun x2 F1 h => ?_)
  refine pw_if_eq (tgt := 19) hO dX7_see_7 (by decide) h (fun c3 h => ?_) (fun c3 h => ?_)
  · refine pw_bipush hO dX7_see_19 (v := (-2)) (by decide) ?_
    exact pw_iret hO hX.2 dX7_see_21 h
  · refine pw_iload_n hO dX7_see_10 2 rfl ?_
    refine pw_iconst hO dX7_see_11 (v := 0) (by decide) ?_
    refine pw_iconst hO dX7_see_12 (v := 3) (by decide) ?_
    refine pw_SI (as := [.int a2, .int 0, .int 3]) (st := []) (d := 0) hO [.int 3, .int 0, .int a2] dX7_see_13 sl_X7_61 h (fun r F1 hg n => ct_X7_isWithin hg) ⟨Nat.le_of_ble_eq_true rfl, Nat.le_of_ble_eq_true rfl⟩ ⟨Nat.zero_le _, Nat.zero_le _⟩ (Nat.le_of_ble_eq_true rfl) (fun _ _ => rfl) rfl (fun x5 F4 h => ?_)
    refine pw_if_ne (tgt := 22) hO dX7_see_16 (by decide) h (fun c6 h => ?_) (fun c6 h => ?_)
    · refine pw_aload_n hO dX7_see_22 0 rfl ?_
      refine pw_getR hO dX7_see_23 fl_X7_43 h (fun q7 h => ?_)
      refine pw_iload_n hO dX7_see_26 1 rfl ?_
      refine pw_iload_n hO dX7_see_27 2 rfl ?_
      refine pw_VI (a := q7) (ci := 4) (as := [.int a1, .int a2]) (st := []) (d := 0) hO [.int a2, .int a1, .ref q7] dX7_see_28 vl_X7_188 h (fun r F1 hg n => ct_X4_add hg) ⟨Nat.le_of_ble_eq_true rfl, Nat.le_of_ble_eq_true rfl⟩ ⟨Nat.zero_le _, Nat.zero_le _⟩ (Nat.le_of_ble_eq_true rfl) (fun _ _ => rfl) rfl (fun x9 F8 h => ?_)
      refine pw_if_eq (tgt := 44) hO dX7_see_31 (by decide) h (fun c10 h => ?_) (fun c10 h => ?_)
      · refine pw_bipush hO dX7_see_44 (v := (-4)) (by decide) ?_
        exact pw_iret hO hX.2 dX7_see_46 h
      · refine pw_aload_n hO dX7_see_34 0 rfl ?_
        refine pw_getR hO dX7_see_35 fl_X7_43 h (fun q11 h => ?_)
        refine pw_getI hO dX7_see_38 fl_X7_190 h (fun x12 h => ?_)
        refine pw_goto (tgt := 46) hO dX7_see_41 (by decide) ?_
        exact pw_iret hO hX.2 dX7_see_46 h
    · refine pw_bipush hO dX7_see_19 (v := (-2)) (by decide) ?_
      exact pw_iret hO hX.2 dX7_see_21 h
theorem ct_X7_see {n : Nat} {F : Hp} {a0 : Nat} {a1 : Int32} {a2 : Int32} {rx : Int32} {F' : Hp} (h : g_X7_see F a0 a1 a2 = some (rx, F')) : CT yX7_see cX7_see 3 (some FieldType.int) (rmd 1) n F [.ref a0, .int a1, .int a2] (some (.int rx)) F' :=
  ct_intro (own := RX7) (nm := false) (by decide) rfl (fun h => by cases h) (Nat.le_of_ble_eq_true rfl) (fun X hn hX => bl_X7_see hX F a0 a1 a2 h)
def g_X7_unsee (F : Hp) (a0 : Nat) : Option (Int32 × Hp) := ((gR F a0 7 5).bind fun q1 => ((gI F q1 4 2).bind fun x2 => ((gR F a0 7 5).bind fun q3 => ((pV F q3 4 2 (.int 0)).bind fun F4 => some (x2, F4)))))
set_option maxHeartbeats 4000000 in
theorem bl_X7_unsee {X : Cx} {rx : Int32} {F' : Hp} (hX : Md X cX7_unsee RX7 2 (rmd 0) (some FieldType.int) false (some (.int rx)) F') (F : Hp) (a0 : Nat) (h : g_X7_unsee F a0 = some (rx, F')) : PW X 0 0 F 0 [(0, .ref a0)] [] := by
  have hO := hX.1
  unfold g_X7_unsee at h
  refine pw_aload_n hO dX7_unsee_0 0 rfl ?_
  refine pw_getR hO dX7_unsee_1 fl_X7_43 h (fun q1 h => ?_)
  refine pw_getI hO dX7_unsee_4 fl_X7_190 h (fun x2 h => ?_)
  refine pw_istore_n hO [(1, .int x2), (0, .ref a0)] dX7_unsee_7 (by decide) rfl ?_
  refine pw_aload_n hO dX7_unsee_8 1 rfl ?_
  refine pw_getR hO dX7_unsee_9 fl_X7_43 h (fun q3 h => ?_)
  refine pw_iconst hO dX7_unsee_12 (v := 0) (by decide) ?_
  refine pw_putI hO dX7_unsee_13 fp_X7_190 h (fun F4 h => ?_)
  refine pw_iload_n hO dX7_unsee_16 0 rfl ?_
  exact pw_iret hO hX.2 dX7_unsee_17 h
theorem ct_X7_unsee {n : Nat} {F : Hp} {a0 : Nat} {rx : Int32} {F' : Hp} (h : g_X7_unsee F a0 = some (rx, F')) : CT yX7_unsee cX7_unsee 2 (some FieldType.int) (rmd 0) n F [.ref a0] (some (.int rx)) F' :=
  ct_intro (own := RX7) (nm := false) (by decide) rfl (fun h => by cases h) (Nat.le_of_ble_eq_true rfl) (fun X hn hX => bl_X7_unsee hX F a0 h)
def g_X7_explainsAll_b2 : Nat → Hp → Nat → Int32 → Int32 → Option (Int32 × Hp)
  | 0, _, _, _, _ => none
  | n + 1, F, v0, v1, v2 => ((gR F v0 7 5).bind fun q1 => ((gI F q1 4 2).bind fun x2 => (if x2 ≤ v2 then some (1, F) else ((gR F v0 7 3).bind fun q4 => ((gR F v0 7 1).bind fun q5 => ((gR F q5 2 0).bind fun q6 => (ckO F q4 1 ((g_X1_become F q4 q6).bind fun F7 => ((gR F7 v0 7 3).bind fun q9 => ((gR F7 q9 1 0).bind fun q10 => ((pV F7 q10 3 1 (.int v1)).bind fun F11 => ((gR F11 v0 7 1).bind fun q12 => ((gR F11 v0 7 3).bind fun q13 => ((gR F11 v0 7 5).bind fun q14 => (ckO F11 q14 4 (bnd2 (g_X4_timeAt F11 q14 v2) fun x16 F15 => (ckO F15 q12 2 ((g_X2_performTill F15 q12 q13 x16).bind fun F17 => ((gR F17 v0 7 3).bind fun q19 => ((gI F17 q19 1 5).bind fun x20 => ((gR F17 v0 7 5).bind fun q21 => (ckO F17 q21 4 (bnd2 (g_X4_phaseAt F17 q21 v2) fun x23 F22 => (if x20 = x23 then g_X7_explainsAll_b2 n F22 v0 v1 ((v2 + 1)) else some (0, F22)))))))))))))))))))))))))
set_option maxHeartbeats 4000000 in
theorem bl_X7_explainsAll_b2 {X : Cx} {rx : Int32} {F' : Hp} (hX : Md X cX7_explainsAll RX7 3 (rmd 5) (some FieldType.boolean) false (some (.int rx)) F') : ∀ (n : Nat) (F : Hp) (v0 : Nat) (v1 : Int32) (v2 : Int32), g_X7_explainsAll_b2 n F v0 v1 v2 = some (rx, F') → PW X 0 0 F 2 [(0, .ref v0), (1, .int v1), (2, .int v2)] [] := by
  have hO := hX.1
  intro n
  induction n with
  | zero => intro F v0 v1 v2 h; rw [g_X7_explainsAll_b2] at h; cases h
  | succ n ih =>
    intro F v0 v1 v2 h
    rw [g_X7_explainsAll_b2] at h
    refine pw_iload_n hO dX7_explainsAll_2 2 rfl ?_
    refine pw_aload_n hO dX7_explainsAll_3 0 rfl ?_
    refine pw_getR hO dX7_explainsAll_4 fl_X7_43 h (fun q1 h => ?_)
    refine pw_getI hO dX7_explainsAll_7 fl_X7_190 h (fun x2 h => ?_)
    refine pw_icmp_ge (tgt := 83) hO dX7_explainsAll_10 (by decide) h (fun c3 h => ?_) (fun c3 h => ?_)
    · refine pw_iconst hO dX7_explainsAll_83 (v := 1) (by decide) ?_
      exact pw_zretc hO hX.2 dX7_explainsAll_84 (Or.inr rfl) h
    · refine pw_aload_n hO dX7_explainsAll_13 0 rfl ?_
      refine pw_getR hO dX7_explainsAll_14 fl_X7_30 h (fun q4 h => ?_)
      refine pw_aload_n hO dX7_explainsAll_17 0 rfl ?_
      refine pw_getR hO dX7_explainsAll_18 fl_X7_19 h (fun q5 h => ?_)
      refine pw_getR hO dX7_explainsAll_21 fl_X7_81 h (fun q6 h => ?_)
      refine pw_V0 (a := q4) (ci := 1) (as := [.ref q6]) (st := []) (d := 1) hO [.ref q6, .ref q4] dX7_explainsAll_24 vl_X7_84 h (fun F1 hg n => ct_X1_become hg) ⟨Nat.le_of_ble_eq_true rfl, Nat.le_of_ble_eq_true rfl⟩ ⟨Nat.zero_le _, Nat.zero_le _⟩ (Nat.le_of_ble_eq_true rfl) (fun _ _ => rfl) rfl (fun F7 h => ?_)
      refine pw_aload_n hO dX7_explainsAll_27 0 rfl ?_
      refine pw_getR hO dX7_explainsAll_28 fl_X7_30 h (fun q9 h => ?_)
      refine pw_getR hO dX7_explainsAll_31 fl_X7_240 h (fun q10 h => ?_)
      refine pw_iload_n hO dX7_explainsAll_34 1 rfl ?_
      refine pw_putI hO dX7_explainsAll_35 fp_X7_118 h (fun F11 h => ?_)
      refine pw_aload_n hO dX7_explainsAll_38 0 rfl ?_
      refine pw_getR hO dX7_explainsAll_39 fl_X7_19 h (fun q12 h => ?_)
      refine pw_aload_n hO dX7_explainsAll_42 0 rfl ?_
      refine pw_getR hO dX7_explainsAll_43 fl_X7_30 h (fun q13 h => ?_)
      refine pw_aload_n hO dX7_explainsAll_46 0 rfl ?_
      refine pw_getR hO dX7_explainsAll_47 fl_X7_43 h (fun q14 h => ?_)
      refine pw_iload_n hO dX7_explainsAll_50 2 rfl ?_
      refine pw_VI (a := q14) (ci := 4) (as := [.int v2]) (st := [.ref q13, .ref q12]) (d := 0) hO [.int v2, .ref q14, .ref q13, .ref q12] dX7_explainsAll_51 vl_X7_244 h (fun r F1 hg n => ct_X4_timeAt hg) ⟨Nat.le_of_ble_eq_true rfl, Nat.le_of_ble_eq_true rfl⟩ ⟨Nat.zero_le _, Nat.zero_le _⟩ (Nat.le_of_ble_eq_true rfl) (fun _ _ => rfl) rfl (fun x16 F15 h => ?_)
      refine pw_V0 (a := q12) (ci := 2) (as := [.ref q13, .int x16]) (st := []) (d := 4) hO [.int x16, .ref q13, .ref q12] dX7_explainsAll_54 vl_X7_247 h (fun F1 hg n => ct_X2_performTill hg) ⟨Nat.le_of_ble_eq_true rfl, Nat.le_of_ble_eq_true rfl⟩ ⟨Nat.zero_le _, Nat.zero_le _⟩ (Nat.le_of_ble_eq_true rfl) (fun _ _ => rfl) rfl (fun F17 h => ?_)
      refine pw_aload_n hO dX7_explainsAll_57 0 rfl ?_
      refine pw_getR hO dX7_explainsAll_58 fl_X7_30 h (fun q19 h => ?_)
      refine pw_getI hO dX7_explainsAll_61 fl_X7_250 h (fun x20 h => ?_)
      refine pw_aload_n hO dX7_explainsAll_64 0 rfl ?_
      refine pw_getR hO dX7_explainsAll_65 fl_X7_43 h (fun q21 h => ?_)
      refine pw_iload_n hO dX7_explainsAll_68 2 rfl ?_
      refine pw_VI (a := q21) (ci := 4) (as := [.int v2]) (st := [.int x20]) (d := 0) hO [.int v2, .ref q21, .int x20] dX7_explainsAll_69 vl_X7_253 h (fun r F1 hg n => ct_X4_phaseAt hg) ⟨Nat.le_of_ble_eq_true rfl, Nat.le_of_ble_eq_true rfl⟩ ⟨Nat.zero_le _, Nat.zero_le _⟩ (Nat.le_of_ble_eq_true rfl) (fun _ _ => rfl) rfl (fun x23 F22 h => ?_)
      refine pw_icmp_eq (tgt := 77) hO dX7_explainsAll_72 (by decide) h (fun c24 h => ?_) (fun c24 h => ?_)
      · refine pw_iinc hO [(2, .int (v2 + 1)), (0, .ref v0), (1, .int v1)] dX7_explainsAll_77 2 rfl rfl (by decide) rfl ?_
        refine pw_goto (tgt := 2) hO dX7_explainsAll_80 (by decide) ?_
        refine pw_sub (lv1 := [(0, .ref v0), (1, .int v1), (2, .int (v2 + 1))]) [1, 2, 0] rfl ?_
        exact ih F22 v0 v1 ((v2 + 1)) h
      · refine pw_iconst hO dX7_explainsAll_75 (v := 0) (by decide) ?_
        exact pw_zretc hO hX.2 dX7_explainsAll_76 (Or.inl rfl) h
def g_X7_explainsAll (F : Hp) (a0 : Nat) (a1 : Int32) : Option (Int32 × Hp) := g_X7_explainsAll_b2 gF F a0 a1 0
set_option maxHeartbeats 4000000 in
theorem bl_X7_explainsAll {X : Cx} {rx : Int32} {F' : Hp} (hX : Md X cX7_explainsAll RX7 3 (rmd 5) (some FieldType.boolean) false (some (.int rx)) F') (F : Hp) (a0 : Nat) (a1 : Int32) (h : g_X7_explainsAll F a0 a1 = some (rx, F')) : PW X 0 0 F 0 [(0, .ref a0), (1, .int a1)] [] := by
  have hO := hX.1
  unfold g_X7_explainsAll at h
  refine pw_iconst hO dX7_explainsAll_0 (v := 0) (by decide) ?_
  refine pw_istore_n hO [(2, .int 0), (0, .ref a0), (1, .int a1)] dX7_explainsAll_1 (by decide) rfl ?_
  refine pw_sub (lv1 := [(0, .ref a0), (1, .int a1), (2, .int 0)]) [1, 2, 0] rfl ?_
  exact bl_X7_explainsAll_b2 hX gF F a0 a1 0 h
theorem ct_X7_explainsAll {n : Nat} {F : Hp} {a0 : Nat} {a1 : Int32} {rx : Int32} {F' : Hp} (h : g_X7_explainsAll F a0 a1 = some (rx, F')) : CT yX7_explainsAll cX7_explainsAll 3 (some FieldType.boolean) (rmd 5) n F [.ref a0, .int a1] (some (.int rx)) F' :=
  ct_intro (own := RX7) (nm := false) (by decide) rfl (fun h => by cases h) (Nat.le_of_ble_eq_true rfl) (fun X hn hX => bl_X7_explainsAll hX F a0 a1 h)
def g_X7_which_b24 (rec4 : Hp → Nat → Int32 → Int32 → Option (Int32 × Hp)) (F : Hp) (v0 : Nat) (v1 : Int32) (v2 : Int32) : Option (Int32 × Hp) := rec4 F v0 v1 ((v2 + 1))
set_option maxHeartbeats 4000000 in
theorem bl_X7_which_b24 {X : Cx} {rx : Int32} {F' : Hp} (hX : Md X cX7_which RX7 3 (rmd 6) (some FieldType.int) false (some (.int rx)) F') (rec4 : Hp → Nat → Int32 → Int32 → Option (Int32 × Hp)) (hrec4 : ∀ (F : Hp) (v0 : Nat) (v1 : Int32) (v2 : Int32), rec4 F v0 v1 v2 = some (rx, F') → PW X 0 0 F 4 [(0, .ref v0), (1, .int v1), (2, .int v2)] []) (F : Hp) (v0 : Nat) (v1 : Int32) (v2 : Int32) (h : g_X7_which_b24 rec4 F v0 v1 v2 = some (rx, F')) : PW X 0 0 F 24 [(0, .ref v0), (1, .int v1), (2, .int v2)] [] := by
  have hO := hX.1
  unfold g_X7_which_b24 at h
  refine pw_iinc hO [(2, .int (v2 + 1)), (0, .ref v0), (1, .int v1)] dX7_which_24 2 rfl rfl (by decide) rfl ?_
  refine pw_goto (tgt := 4) hO dX7_which_27 (by decide) ?_
  refine pw_sub (lv1 := [(0, .ref v0), (1, .int v1), (2, .int (v2 + 1))]) [1, 2, 0] rfl ?_
  exact hrec4 F v0 v1 ((v2 + 1)) h
def g_X7_which_b4 : Nat → Hp → Nat → Int32 → Int32 → Option (Int32 × Hp)
  | 0, _, _, _, _ => none
  | n + 1, F, v0, v1, v2 => (if 9 < v2 then some (v1, F) else (ckO F v0 7 (bnd2 (g_X7_explainsAll F v0 v2) fun x3 F2 => (if x3 = 0 then g_X7_which_b24 (g_X7_which_b4 n) F2 v0 v1 v2 else g_X7_which_b24 (g_X7_which_b4 n) F2 v0 ((v1 ||| (1 <<< (v2 &&& 31)))) v2))))
set_option maxHeartbeats 4000000 in
theorem bl_X7_which_b4 {X : Cx} {rx : Int32} {F' : Hp} (hX : Md X cX7_which RX7 3 (rmd 6) (some FieldType.int) false (some (.int rx)) F') : ∀ (n : Nat) (F : Hp) (v0 : Nat) (v1 : Int32) (v2 : Int32), g_X7_which_b4 n F v0 v1 v2 = some (rx, F') → PW X 0 0 F 4 [(0, .ref v0), (1, .int v1), (2, .int v2)] [] := by
  have hO := hX.1
  intro n
  induction n with
  | zero => intro F v0 v1 v2 h; rw [g_X7_which_b4] at h; cases h
  | succ n ih =>
    intro F v0 v1 v2 h
    rw [g_X7_which_b4] at h
    refine pw_iload_n hO dX7_which_4 2 rfl ?_
    refine pw_bipush hO dX7_which_5 (v := 9) (by decide) ?_
    refine pw_icmp_gt (tgt := 30) hO dX7_which_7 (by decide) h (fun c1 h => ?_) (fun c1 h => ?_)
    · refine pw_iload_n hO dX7_which_30 1 rfl ?_
      exact pw_iret hO hX.2 dX7_which_31 h
    · refine pw_aload_n hO dX7_which_10 0 rfl ?_
      refine pw_iload_n hO dX7_which_11 2 rfl ?_
      refine pw_VI (a := v0) (ci := 7) (as := [.int v2]) (st := []) (d := 5) hO [.int v2, .ref v0] dX7_which_12 vl_X7_191 h (fun r F1 hg n => ct_X7_explainsAll hg) ⟨Nat.le_of_ble_eq_true rfl, Nat.le_of_ble_eq_true rfl⟩ ⟨Nat.zero_le _, Nat.zero_le _⟩ (Nat.le_of_ble_eq_true rfl) (fun _ _ => rfl) rfl (fun x3 F2 h => ?_)
      refine pw_if_eq (tgt := 24) hO dX7_which_15 (by decide) h (fun c4 h => ?_) (fun c4 h => ?_)
      · refine pw_sub (lv1 := [(0, .ref v0), (1, .int v1), (2, .int v2)]) [0, 1, 2] rfl ?_
        exact bl_X7_which_b24 hX (g_X7_which_b4 n) ih F2 v0 v1 v2 h
      · refine pw_iload_n hO dX7_which_18 1 rfl ?_
        refine pw_iconst hO dX7_which_19 (v := 1) (by decide) ?_
        refine pw_iload_n hO dX7_which_20 2 rfl ?_
        refine pw_ishl hO dX7_which_21 ?_
        refine pw_ior hO dX7_which_22 ?_
        refine pw_istore_n hO [(1, .int (v1 ||| (1 <<< (v2 &&& 31)))), (0, .ref v0), (2, .int v2)] dX7_which_23 (by decide) rfl ?_
        refine pw_sub (lv1 := [(0, .ref v0), (1, .int (v1 ||| (1 <<< (v2 &&& 31)))), (2, .int v2)]) [1, 0, 2] rfl ?_
        exact bl_X7_which_b24 hX (g_X7_which_b4 n) ih F2 v0 ((v1 ||| (1 <<< (v2 &&& 31)))) v2 h
def g_X7_which (F : Hp) (a0 : Nat) : Option (Int32 × Hp) := g_X7_which_b4 gF F a0 0 1
set_option maxHeartbeats 4000000 in
theorem bl_X7_which {X : Cx} {rx : Int32} {F' : Hp} (hX : Md X cX7_which RX7 3 (rmd 6) (some FieldType.int) false (some (.int rx)) F') (F : Hp) (a0 : Nat) (h : g_X7_which F a0 = some (rx, F')) : PW X 0 0 F 0 [(0, .ref a0)] [] := by
  have hO := hX.1
  unfold g_X7_which at h
  refine pw_iconst hO dX7_which_0 (v := 0) (by decide) ?_
  refine pw_istore_n hO [(1, .int 0), (0, .ref a0)] dX7_which_1 (by decide) rfl ?_
  refine pw_iconst hO dX7_which_2 (v := 1) (by decide) ?_
  refine pw_istore_n hO [(2, .int 1), (1, .int 0), (0, .ref a0)] dX7_which_3 (by decide) rfl ?_
  refine pw_sub (lv1 := [(0, .ref a0), (1, .int 0), (2, .int 1)]) [2, 1, 0] rfl ?_
  exact bl_X7_which_b4 hX gF F a0 0 1 h
theorem ct_X7_which {n : Nat} {F : Hp} {a0 : Nat} {rx : Int32} {F' : Hp} (h : g_X7_which F a0 = some (rx, F')) : CT yX7_which cX7_which 3 (some FieldType.int) (rmd 6) n F [.ref a0] (some (.int rx)) F' :=
  ct_intro (own := RX7) (nm := false) (by decide) rfl (fun h => by cases h) (Nat.le_of_ble_eq_true rfl) (fun X hn hX => bl_X7_which hX F a0 h)
def g_X7_energyOf_b63 (F : Hp) (v0 : Nat) (v2 : Int32) (s0 : Nat) (s1 : Int32) : Option (Int32 × Hp) := ((pZ F s0 1 2 s1).bind fun F10 => ((gR F10 v0 7 1).bind fun q11 => ((gR F10 v0 7 3).bind fun q12 => (ckO F10 q11 2 ((g_X2_perform F10 q11 q12 v2).bind fun F13 => ((gR F13 v0 7 3).bind fun q15 => (ckO F13 q15 1 ((g_X1_settle F13 q15).bind fun F16 => ((gR F16 v0 7 3).bind fun q18 => ((gI F16 q18 1 9).bind fun x19 => some (x19, F16)))))))))))
set_option maxHeartbeats 4000000 in
theorem bl_X7_energyOf_b63 {X : Cx} {rx : Int32} {F' : Hp} (hX : Md X cX7_energyOf RX7 3 (rmd 5) (some FieldType.int) false (some (.int rx)) F') (F : Hp) (v0 : Nat) (v2 : Int32) (s0 : Nat) (s1 : Int32) (h : g_X7_energyOf_b63 F v0 v2 s0 s1 = some (rx, F')) : PW X 0 0 F 63 [(0, .ref v0), (2, .int v2)] [.int s1, .ref s0] := by
  have hO := hX.1
  unfold g_X7_energyOf_b63 at h
  refine pw_putZ hO dX7_energyOf_63 fp_X7_259 h (fun F10 h => ?_)
  refine pw_aload_n hO dX7_energyOf_66 0 rfl ?_
  refine pw_getR hO dX7_energyOf_67 fl_X7_19 h (fun q11 h => ?_)
  refine pw_aload_n hO dX7_energyOf_70 0 rfl ?_
  refine pw_getR hO dX7_energyOf_71 fl_X7_30 h (fun q12 h => ?_)
  refine pw_iload_n hO dX7_energyOf_74 1 rfl ?_
  refine pw_V0 (a := q11) (ci := 2) (as := [.ref q12, .int v2]) (st := []) (d := 4) hO [.int v2, .ref q12, .ref q11] dX7_energyOf_75 vl_X7_87 h (fun F1 hg n => ct_X2_perform hg) ⟨Nat.le_of_ble_eq_true rfl, Nat.le_of_ble_eq_true rfl⟩ ⟨Nat.zero_le _, Nat.zero_le _⟩ (Nat.le_of_ble_eq_true rfl) (fun _ _ => rfl) rfl (fun F13 h => ?_)
  refine pw_aload_n hO dX7_energyOf_78 0 rfl ?_
  refine pw_getR hO dX7_energyOf_79 fl_X7_30 h (fun q15 h => ?_)
  refine pw_V0 (a := q15) (ci := 1) (as := []) (st := []) (d := 3) hO [.ref q15] dX7_energyOf_82 vl_X7_168 h (fun F1 hg n => ct_X1_settle hg) ⟨Nat.le_of_ble_eq_true rfl, Nat.le_of_ble_eq_true rfl⟩ ⟨Nat.zero_le _, Nat.zero_le _⟩ (Nat.le_of_ble_eq_true rfl) (fun _ _ => rfl) rfl (fun F16 h => ?_)
  refine pw_aload_n hO dX7_energyOf_85 0 rfl ?_
  refine pw_getR hO dX7_energyOf_86 fl_X7_30 h (fun q18 h => ?_)
  refine pw_getI hO dX7_energyOf_89 fl_X7_174 h (fun x19 h => ?_)
  exact pw_iret hO hX.2 dX7_energyOf_92 h
def g_X7_energyOf_b48 (F : Hp) (v0 : Nat) (v1 : Int32) (v2 : Int32) : Option (Int32 × Hp) := ((gR F v0 7 3).bind fun q8 => (if (v1 &&& 4) = 0 then g_X7_energyOf_b63 F v0 v2 q8 0 else g_X7_energyOf_b63 F v0 v2 q8 1))
set_option maxHeartbeats 4000000 in
theorem bl_X7_energyOf_b48 {X : Cx} {rx : Int32} {F' : Hp} (hX : Md X cX7_energyOf RX7 3 (rmd 5) (some FieldType.int) false (some (.int rx)) F') (F : Hp) (v0 : Nat) (v1 : Int32) (v2 : Int32) (h : g_X7_energyOf_b48 F v0 v1 v2 = some (rx, F')) : PW X 0 0 F 48 [(0, .ref v0), (1, .int v1), (2, .int v2)] [] := by
  have hO := hX.1
  unfold g_X7_energyOf_b48 at h
  refine pw_aload_n hO dX7_energyOf_48 0 rfl ?_
  refine pw_getR hO dX7_energyOf_49 fl_X7_30 h (fun q8 h => ?_)
  refine pw_iload_n hO dX7_energyOf_52 1 rfl ?_
  refine pw_iconst hO dX7_energyOf_53 (v := 4) (by decide) ?_
  refine pw_iand hO dX7_energyOf_54 ?_
  refine pw_if_eq (tgt := 62) hO dX7_energyOf_55 (by decide) h (fun c9 h => ?_) (fun c9 h => ?_)
  · refine pw_iconst hO dX7_energyOf_62 (v := 0) (by decide) ?_
    refine pw_sub (lv1 := [(0, .ref v0), (2, .int v2)]) [0, 2] rfl ?_
    exact bl_X7_energyOf_b63 hX F v0 v2 q8 0 h
  · refine pw_iconst hO dX7_energyOf_58 (v := 1) (by decide) ?_
    refine pw_goto (tgt := 63) hO dX7_energyOf_59 (by decide) ?_
    refine pw_sub (lv1 := [(0, .ref v0), (2, .int v2)]) [0, 2] rfl ?_
    exact bl_X7_energyOf_b63 hX F v0 v2 q8 1 h
def g_X7_energyOf_b31 (F : Hp) (v0 : Nat) (v1 : Int32) (v2 : Int32) : Option (Int32 × Hp) := (if (v1 &&& 2) = 0 then ((gR F v0 7 3).bind fun q20 => ((gR F q20 1 1).bind fun q21 => ((pV F q21 3 1 (.int 1)).bind fun F22 => g_X7_energyOf_b48 F22 v0 v1 v2))) else g_X7_energyOf_b48 F v0 v1 v2)
set_option maxHeartbeats 4000000 in
theorem bl_X7_energyOf_b31 {X : Cx} {rx : Int32} {F' : Hp} (hX : Md X cX7_energyOf RX7 3 (rmd 5) (some FieldType.int) false (some (.int rx)) F') (F : Hp) (v0 : Nat) (v1 : Int32) (v2 : Int32) (h : g_X7_energyOf_b31 F v0 v1 v2 = some (rx, F')) : PW X 0 0 F 31 [(0, .ref v0), (1, .int v1), (2, .int v2)] [] := by
  have hO := hX.1
  unfold g_X7_energyOf_b31 at h
  refine pw_iload_n hO dX7_energyOf_31 1 rfl ?_
  refine pw_iconst hO dX7_energyOf_32 (v := 2) (by decide) ?_
  refine pw_iand hO dX7_energyOf_33 ?_
  refine pw_if_ne (tgt := 48) hO dX7_energyOf_34 (by decide) h (fun c7 h => ?_) (fun c7 h => ?_)
  · refine pw_sub (lv1 := [(0, .ref v0), (1, .int v1), (2, .int v2)]) [0, 1, 2] rfl ?_
    exact bl_X7_energyOf_b48 hX F v0 v1 v2 h
  · refine pw_aload_n hO dX7_energyOf_37 0 rfl ?_
    refine pw_getR hO dX7_energyOf_38 fl_X7_30 h (fun q20 h => ?_)
    refine pw_getR hO dX7_energyOf_41 fl_X7_256 h (fun q21 h => ?_)
    refine pw_iconst hO dX7_energyOf_44 (v := 1) (by decide) ?_
    refine pw_putI hO dX7_energyOf_45 fp_X7_118 h (fun F22 h => ?_)
    refine pw_sub (lv1 := [(0, .ref v0), (1, .int v1), (2, .int v2)]) [0, 1, 2] rfl ?_
    exact bl_X7_energyOf_b48 hX F22 v0 v1 v2 h
def g_X7_energyOf (F : Hp) (a0 : Nat) (a1 : Int32) (a2 : Int32) : Option (Int32 × Hp) := ((gR F a0 7 3).bind fun q1 => ((gR F a0 7 1).bind fun q2 => ((gR F q2 2 0).bind fun q3 => (ckO F q1 1 ((g_X1_become F q1 q3).bind fun F4 => (if (a1 &&& 1) = 0 then ((gR F4 a0 7 3).bind fun q23 => ((gR F4 q23 1 0).bind fun q24 => ((pV F4 q24 3 1 (.int 1)).bind fun F25 => g_X7_energyOf_b31 F25 a0 a1 a2))) else g_X7_energyOf_b31 F4 a0 a1 a2))))))
set_option maxHeartbeats 4000000 in
theorem bl_X7_energyOf {X : Cx} {rx : Int32} {F' : Hp} (hX : Md X cX7_energyOf RX7 3 (rmd 5) (some FieldType.int) false (some (.int rx)) F') (F : Hp) (a0 : Nat) (a1 : Int32) (a2 : Int32) (h : g_X7_energyOf F a0 a1 a2 = some (rx, F')) : PW X 0 0 F 0 [(0, .ref a0), (1, .int a1), (2, .int a2)] [] := by
  have hO := hX.1
  unfold g_X7_energyOf at h
  refine pw_aload_n hO dX7_energyOf_0 0 rfl ?_
  refine pw_getR hO dX7_energyOf_1 fl_X7_30 h (fun q1 h => ?_)
  refine pw_aload_n hO dX7_energyOf_4 0 rfl ?_
  refine pw_getR hO dX7_energyOf_5 fl_X7_19 h (fun q2 h => ?_)
  refine pw_getR hO dX7_energyOf_8 fl_X7_81 h (fun q3 h => ?_)
  refine pw_V0 (a := q1) (ci := 1) (as := [.ref q3]) (st := []) (d := 1) hO [.ref q3, .ref q1] dX7_energyOf_11 vl_X7_84 h (fun F1 hg n => ct_X1_become hg) ⟨Nat.le_of_ble_eq_true rfl, Nat.le_of_ble_eq_true rfl⟩ ⟨Nat.zero_le _, Nat.zero_le _⟩ (Nat.le_of_ble_eq_true rfl) (fun _ _ => rfl) rfl (fun F4 h => ?_)
  refine pw_iload_n hO dX7_energyOf_14 1 rfl ?_
  refine pw_iconst hO dX7_energyOf_15 (v := 1) (by decide) ?_
  refine pw_iand hO dX7_energyOf_16 ?_
  refine pw_if_ne (tgt := 31) hO dX7_energyOf_17 (by decide) h (fun c6 h => ?_) (fun c6 h => ?_)
  · refine pw_sub (lv1 := [(0, .ref a0), (1, .int a1), (2, .int a2)]) [0, 1, 2] rfl ?_
    exact bl_X7_energyOf_b31 hX F4 a0 a1 a2 h
  · refine pw_aload_n hO dX7_energyOf_20 0 rfl ?_
    refine pw_getR hO dX7_energyOf_21 fl_X7_30 h (fun q23 h => ?_)
    refine pw_getR hO dX7_energyOf_24 fl_X7_240 h (fun q24 h => ?_)
    refine pw_iconst hO dX7_energyOf_27 (v := 1) (by decide) ?_
    refine pw_putI hO dX7_energyOf_28 fp_X7_118 h (fun F25 h => ?_)
    refine pw_sub (lv1 := [(0, .ref a0), (1, .int a1), (2, .int a2)]) [0, 1, 2] rfl ?_
    exact bl_X7_energyOf_b31 hX F25 a0 a1 a2 h
theorem ct_X7_energyOf {n : Nat} {F : Hp} {a0 : Nat} {a1 : Int32} {a2 : Int32} {rx : Int32} {F' : Hp} (h : g_X7_energyOf F a0 a1 a2 = some (rx, F')) : CT yX7_energyOf cX7_energyOf 3 (some FieldType.int) (rmd 5) n F [.ref a0, .int a1, .int a2] (some (.int rx)) F' :=
  ct_intro (own := RX7) (nm := false) (by decide) rfl (fun h => by cases h) (Nat.le_of_ble_eq_true rfl) (fun X hn hX => bl_X7_energyOf hX F a0 a1 a2 h)
def g_X7_ordersBehind (F : Hp) (a0 : Int32) : Option (Int32 × Hp) := (bnd2 (g_J6_bitCount_0f7a4 F a0) fun x2 F1 => (if x2 = 1 then some (1, F1) else some (2, F1)))
set_option maxHeartbeats 4000000 in
theorem bl_X7_ordersBehind {X : Cx} {rx : Int32} {F' : Hp} (hX : Md X cX7_ordersBehind RX7 1 (rmd 1) (some FieldType.int) false (some (.int rx)) F') (F : Hp) (a0 : Int32) (h : g_X7_ordersBehind F a0 = some (rx, F')) : PW X 0 0 F 0 [(0, .int a0)] [] := by
  have hO := hX.1
  unfold g_X7_ordersBehind at h
  refine pw_iload_n hO dX7_ordersBehind_0 0 rfl ?_
  refine pw_SI (as := [.int a0]) (st := []) (d := 0) hO [.int a0] dX7_ordersBehind_1 sl_X7_262 h (fun r F1 hg n => ct_J6_bitCount_0f7a4 hg) ⟨Nat.le_of_ble_eq_true rfl, Nat.le_of_ble_eq_true rfl⟩ ⟨Nat.zero_le _, Nat.zero_le _⟩ (Nat.le_of_ble_eq_true rfl) (fun _ _ => rfl) rfl (fun x2 F1 h => ?_)
  refine pw_iconst hO dX7_ordersBehind_4 (v := 1) (by decide) ?_
  refine pw_icmp_ne (tgt := 12) hO dX7_ordersBehind_5 (by decide) h (fun c3 h => ?_) (fun c3 h => ?_)
  · refine pw_iconst hO dX7_ordersBehind_12 (v := 2) (by decide) ?_
    exact pw_iret hO hX.2 dX7_ordersBehind_13 h
  · refine pw_iconst hO dX7_ordersBehind_8 (v := 1) (by decide) ?_
    refine pw_goto (tgt := 13) hO dX7_ordersBehind_9 (by decide) ?_
    exact pw_iret hO hX.2 dX7_ordersBehind_13 h
theorem ct_X7_ordersBehind {n : Nat} {F : Hp} {a0 : Int32} {rx : Int32} {F' : Hp} (h : g_X7_ordersBehind F a0 = some (rx, F')) : CT yX7_ordersBehind cX7_ordersBehind 1 (some FieldType.int) (rmd 1) n F [.int a0] (some (.int rx)) F' :=
  ct_intro (own := RX7) (nm := false) (by decide) rfl (fun h => by cases h) (Nat.le_of_ble_eq_true rfl) (fun X hn hX => bl_X7_ordersBehind hX F a0 h)
def g_X7_commonDivisor_b7 : Nat → Hp → Int32 → Int32 → Int32 → Option (Int32 × Hp)
  | 0, _, _, _, _ => none
  | n + 1, F, v2, v3, v4 => (if 64 ≤ v4 then some (v2, F) else (if v3 = 0 then some (v2, F) else (if v3 = 0 then none else g_X7_commonDivisor_b7 n F v3 ((jrem v2 v3)) ((v4 + 1)))))
set_option maxHeartbeats 4000000 in
theorem bl_X7_commonDivisor_b7 {X : Cx} {rx : Int32} {F' : Hp} (hX : Md X cX7_commonDivisor RX7 6 (rmd 0) (some FieldType.int) false (some (.int rx)) F') : ∀ (n : Nat) (F : Hp) (v2 : Int32) (v3 : Int32) (v4 : Int32), g_X7_commonDivisor_b7 n F v2 v3 v4 = some (rx, F') → PW X 0 0 F 7 [(2, .int v2), (3, .int v3), (4, .int v4)] [] := by
  have hO := hX.1
  intro n
  induction n with
  | zero => intro F v2 v3 v4 h; rw [g_X7_commonDivisor_b7] at h; cases h
  | succ n ih =>
    intro F v2 v3 v4 h
    rw [g_X7_commonDivisor_b7] at h
    refine pw_iload hO dX7_commonDivisor_7 2 rfl ?_
    refine pw_bipush hO dX7_commonDivisor_9 (v := 64) (by decide) ?_
    refine pw_icmp_ge (tgt := 34) hO dX7_commonDivisor_11 (by decide) h (fun c1 h => ?_) (fun c1 h => ?_)
    · refine pw_iload_n hO dX7_commonDivisor_34 0 rfl ?_
      exact pw_iret hO hX.2 dX7_commonDivisor_35 h
    · refine pw_iload_n hO dX7_commonDivisor_14 1 rfl ?_
      refine pw_if_eq (tgt := 34) hO dX7_commonDivisor_15 (by decide) h (fun c2 h => ?_) (fun c2 h => ?_)
      · refine pw_iload_n hO dX7_commonDivisor_34 0 rfl ?_
        exact pw_iret hO hX.2 dX7_commonDivisor_35 h
      · refine pw_iload_n hO dX7_commonDivisor_18 0 rfl ?_
        refine pw_iload_n hO dX7_commonDivisor_19 1 rfl ?_
        refine pw_irem hO dX7_commonDivisor_20 h (fun h => ?_)
        refine pw_istore hO [(5, .int (jrem v2 v3)), (2, .int v2), (3, .int v3), (4, .int v4)] dX7_commonDivisor_21 (by decide) rfl ?_
        refine pw_iload_n hO dX7_commonDivisor_23 2 rfl ?_
        refine pw_istore_n hO [(2, .int v3), (5, .int (jrem v2 v3)), (3, .int v3), (4, .int v4)] dX7_commonDivisor_24 (by decide) rfl ?_
        refine pw_iload hO dX7_commonDivisor_25 1 rfl ?_
        refine pw_istore_n hO [(3, .int (jrem v2 v3)), (2, .int v3), (5, .int (jrem v2 v3)), (4, .int v4)] dX7_commonDivisor_27 (by decide) rfl ?_
        refine pw_iinc hO [(4, .int (v4 + 1)), (3, .int (jrem v2 v3)), (2, .int v3), (5, .int (jrem v2 v3))] dX7_commonDivisor_28 3 rfl rfl (by decide) rfl ?_
        refine pw_goto (tgt := 7) hO dX7_commonDivisor_31 (by decide) ?_
        refine pw_sub (lv1 := [(2, .int v3), (3, .int (jrem v2 v3)), (4, .int (v4 + 1))]) [2, 1, 0] rfl ?_
        exact ih F v3 ((jrem v2 v3)) ((v4 + 1)) h
def g_X7_commonDivisor (F : Hp) (a0 : Int32) (a1 : Int32) : Option (Int32 × Hp) := g_X7_commonDivisor_b7 gF F a0 a1 0
set_option maxHeartbeats 4000000 in
theorem bl_X7_commonDivisor {X : Cx} {rx : Int32} {F' : Hp} (hX : Md X cX7_commonDivisor RX7 6 (rmd 0) (some FieldType.int) false (some (.int rx)) F') (F : Hp) (a0 : Int32) (a1 : Int32) (h : g_X7_commonDivisor F a0 a1 = some (rx, F')) : PW X 0 0 F 0 [(0, .int a0), (1, .int a1)] [] := by
  have hO := hX.1
  unfold g_X7_commonDivisor at h
  refine pw_iload_n hO dX7_commonDivisor_0 0 rfl ?_
  refine pw_istore_n hO [(2, .int a0), (0, .int a0), (1, .int a1)] dX7_commonDivisor_1 (by decide) rfl ?_
  refine pw_iload_n hO dX7_commonDivisor_2 2 rfl ?_
  refine pw_istore_n hO [(3, .int a1), (2, .int a0), (0, .int a0), (1, .int a1)] dX7_commonDivisor_3 (by decide) rfl ?_
  refine pw_iconst hO dX7_commonDivisor_4 (v := 0) (by decide) ?_
  refine pw_istore hO [(4, .int 0), (3, .int a1), (2, .int a0), (0, .int a0), (1, .int a1)] dX7_commonDivisor_5 (by decide) rfl ?_
  refine pw_sub (lv1 := [(2, .int a0), (3, .int a1), (4, .int 0)]) [2, 1, 0] rfl ?_
  exact bl_X7_commonDivisor_b7 hX gF F a0 a1 0 h
theorem ct_X7_commonDivisor {n : Nat} {F : Hp} {a0 : Int32} {a1 : Int32} {rx : Int32} {F' : Hp} (h : g_X7_commonDivisor F a0 a1 = some (rx, F')) : CT yX7_commonDivisor cX7_commonDivisor 6 (some FieldType.int) (rmd 0) n F [.int a0, .int a1] (some (.int rx)) F' :=
  ct_intro (own := RX7) (nm := false) (by decide) rfl (fun h => by cases h) (Nat.le_of_ble_eq_true rfl) (fun X hn hX => bl_X7_commonDivisor hX F a0 a1 h)
def g_X7_fraction (F : Hp) (a0 : Int32) (a1 : Int32) (a2 : Int32) : Option (Int32 × Hp) := (bnd2 (g_X7_commonDivisor F (jabs a0) a1) fun x2 F1 => (if x2 = 0 then (if a2 = 0 then some (a1, F1) else some (a0, F1)) else (if a2 = 0 then (if x2 = 0 then none else some ((a1 / x2), F1)) else (if x2 = 0 then none else some ((a0 / x2), F1)))))
set_option maxHeartbeats 4000000 in
theorem bl_X7_fraction {X : Cx} {rx : Int32} {F' : Hp} (hX : Md X cX7_fraction RX7 4 (rmd 1) (some FieldType.int) false (some (.int rx)) F') (F : Hp) (a0 : Int32) (a1 : Int32) (a2 : Int32) (h : g_X7_fraction F a0 a1 a2 = some (rx, F')) : PW X 0 0 F 0 [(0, .int a0), (1, .int a1), (2, .int a2)] [] := by
  have hO := hX.1
  unfold g_X7_fraction at h
  refine pw_iload_n hO dX7_fraction_0 0 rfl ?_
  refine pw_mabs (st := []) hO dX7_fraction_1 mt_X7_267 (Nat.le_of_ble_eq_true rfl) (Nat.le_of_ble_eq_true rfl) ⟨Nat.zero_le _, Nat.zero_le _⟩ (Nat.le_of_ble_eq_true rfl) ?_
  refine pw_iload_n hO dX7_fraction_4 1 rfl ?_
  refine pw_SI (as := [.int (jabs a0), .int a1]) (st := []) (d := 0) hO [.int a1, .int (jabs a0)] dX7_fraction_5 sl_X7_270 h (fun r F1 hg n => ct_X7_commonDivisor hg) ⟨Nat.le_of_ble_eq_true rfl, Nat.le_of_ble_eq_true rfl⟩ ⟨Nat.zero_le _, Nat.zero_le _⟩ (Nat.le_of_ble_eq_true rfl) (fun _ _ => rfl) rfl (fun x2 F1 h => ?_)
  refine pw_istore_n hO [(3, .int x2), (0, .int a0), (1, .int a1), (2, .int a2)] dX7_fraction_8 (by decide) rfl ?_
  refine pw_iload_n hO dX7_fraction_9 0 rfl ?_
  refine pw_if_ne (tgt := 23) hO dX7_fraction_10 (by decide) h (fun c3 h => ?_) (fun c3 h => ?_)
  · refine pw_iload_n hO dX7_fraction_23 3 rfl ?_
    refine pw_if_eq (tgt := 33) hO dX7_fraction_24 (by decide) h (fun c4 h => ?_) (fun c4 h => ?_)
    · refine pw_iload_n hO dX7_fraction_33 2 rfl ?_
      refine pw_iload_n hO dX7_fraction_34 0 rfl ?_
      refine pw_idiv hO dX7_fraction_35 h (fun h => ?_)
      exact pw_iret hO hX.2 dX7_fraction_36 h
    · refine pw_iload_n hO dX7_fraction_27 1 rfl ?_
      refine pw_iload_n hO dX7_fraction_28 0 rfl ?_
      refine pw_idiv hO dX7_fraction_29 h (fun h => ?_)
      refine pw_goto (tgt := 36) hO dX7_fraction_30 (by decide) ?_
      exact pw_iret hO hX.2 dX7_fraction_36 h
  · refine pw_iload_n hO dX7_fraction_13 3 rfl ?_
    refine pw_if_eq (tgt := 21) hO dX7_fraction_14 (by decide) h (fun c5 h => ?_) (fun c5 h => ?_)
    · refine pw_iload_n hO dX7_fraction_21 2 rfl ?_
      exact pw_iret hO hX.2 dX7_fraction_22 h
    · refine pw_iload_n hO dX7_fraction_17 1 rfl ?_
      refine pw_goto (tgt := 22) hO dX7_fraction_18 (by decide) ?_
      exact pw_iret hO hX.2 dX7_fraction_22 h
theorem ct_X7_fraction {n : Nat} {F : Hp} {a0 : Int32} {a1 : Int32} {a2 : Int32} {rx : Int32} {F' : Hp} (h : g_X7_fraction F a0 a1 a2 = some (rx, F')) : CT yX7_fraction cX7_fraction 4 (some FieldType.int) (rmd 1) n F [.int a0, .int a1, .int a2] (some (.int rx)) F' :=
  ct_intro (own := RX7) (nm := false) (by decide) rfl (fun h => by cases h) (Nat.le_of_ble_eq_true rfl) (fun X hn hX => bl_X7_fraction hX F a0 a1 a2 h)
def g_X7_share_b67 (rec21 : Hp → Nat → Int32 → Int32 → Int32 → Int32 → Option (Int32 × Hp)) (F : Hp) (v0 : Nat) (v2 : Int32) (v3 : Int32) (v4 : Int32) (v5 : Int32) : Option (Int32 × Hp) := rec21 F v0 v2 v3 v4 ((v5 + 1))
set_option maxHeartbeats 4000000 in
theorem bl_X7_share_b67 {X : Cx} {rx : Int32} {F' : Hp} (hX : Md X cX7_share RX7 7 (rmd 6) (some FieldType.int) false (some (.int rx)) F') (rec21 : Hp → Nat → Int32 → Int32 → Int32 → Int32 → Option (Int32 × Hp)) (hrec21 : ∀ (F : Hp) (v0 : Nat) (v2 : Int32) (v3 : Int32) (v4 : Int32) (v5 : Int32), rec21 F v0 v2 v3 v4 v5 = some (rx, F') → PW X 0 0 F 21 [(0, .ref v0), (2, .int v2), (3, .int v3), (4, .int v4), (5, .int v5)] []) (F : Hp) (v0 : Nat) (v2 : Int32) (v3 : Int32) (v4 : Int32) (v5 : Int32) (h : g_X7_share_b67 rec21 F v0 v2 v3 v4 v5 = some (rx, F')) : PW X 0 0 F 67 [(0, .ref v0), (2, .int v2), (3, .int v3), (4, .int v4), (5, .int v5)] [] := by
  have hO := hX.1
  unfold g_X7_share_b67 at h
  refine pw_iinc hO [(5, .int (v5 + 1)), (0, .ref v0), (2, .int v2), (3, .int v3), (4, .int v4)] dX7_share_67 4 rfl rfl (by decide) rfl ?_
  refine pw_goto (tgt := 21) hO dX7_share_70 (by decide) ?_
  refine pw_sub (lv1 := [(0, .ref v0), (2, .int v2), (3, .int v3), (4, .int v4), (5, .int (v5 + 1))]) [1, 2, 3, 4, 0] rfl ?_
  exact hrec21 F v0 v2 v3 v4 ((v5 + 1)) h
def g_X7_share_b21 : Nat → Hp → Nat → Int32 → Int32 → Int32 → Int32 → Option (Int32 × Hp)
  | 0, _, _, _, _, _, _ => none
  | n + 1, F, v0, v2, v3, v4, v5 => (if 7 < v5 then (bnd2 (g_X7_fraction F v4 6 v2) fun x6 F5 => some (x6, F5)) else (if (v5 &&& v3) = 0 then (ckO F v0 7 (bnd2 (g_X7_energyOf F v0 v5 0) fun x9 F8 => (ckO F8 v0 7 (bnd2 (g_X7_energyOf F8 v0 (v5 ||| v3) 0) fun x11 F10 => (bnd2 (g_X7_ordersBehind F10 v5) fun x13 F12 => g_X7_share_b67 (g_X7_share_b21 n) F12 v0 v2 v3 ((v4 + (x13 * (x9 - x11)))) v5))))) else g_X7_share_b67 (g_X7_share_b21 n) F v0 v2 v3 v4 v5))
set_option maxHeartbeats 4000000 in
theorem bl_X7_share_b21 {X : Cx} {rx : Int32} {F' : Hp} (hX : Md X cX7_share RX7 7 (rmd 6) (some FieldType.int) false (some (.int rx)) F') : ∀ (n : Nat) (F : Hp) (v0 : Nat) (v2 : Int32) (v3 : Int32) (v4 : Int32) (v5 : Int32), g_X7_share_b21 n F v0 v2 v3 v4 v5 = some (rx, F') → PW X 0 0 F 21 [(0, .ref v0), (2, .int v2), (3, .int v3), (4, .int v4), (5, .int v5)] [] := by
  have hO := hX.1
  intro n
  induction n with
  | zero => intro F v0 v2 v3 v4 v5 h; rw [g_X7_share_b21] at h; cases h
  | succ n ih =>
    intro F v0 v2 v3 v4 v5 h
    rw [g_X7_share_b21] at h
    refine pw_iload hO dX7_share_21 4 rfl ?_
    refine pw_bipush hO dX7_share_23 (v := 7) (by decide) ?_
    refine pw_icmp_gt (tgt := 73) hO dX7_share_25 (by decide) h (fun c4 h => ?_) (fun c4 h => ?_)
    · refine pw_iload hO dX7_share_73 3 rfl ?_
      refine pw_bipush hO dX7_share_75 (v := 6) (by decide) ?_
      refine pw_iload_n hO dX7_share_77 1 rfl ?_
      refine pw_SI (as := [.int v4, .int 6, .int v2]) (st := []) (d := 1) hO [.int v2, .int 6, .int v4] dX7_share_78 sl_X7_201 h (fun r F1 hg n => ct_X7_fraction hg) ⟨Nat.le_of_ble_eq_true rfl, Nat.le_of_ble_eq_true rfl⟩ ⟨Nat.zero_le _, Nat.zero_le _⟩ (Nat.le_of_ble_eq_true rfl) (fun _ _ => rfl) rfl (fun x6 F5 h => ?_)
      exact pw_iret hO hX.2 dX7_share_81 h
    · refine pw_iload hO dX7_share_28 4 rfl ?_
      refine pw_iload_n hO dX7_share_30 2 rfl ?_
      refine pw_iand hO dX7_share_31 ?_
      refine pw_if_ne (tgt := 67) hO dX7_share_32 (by decide) h (fun c7 h => ?_) (fun c7 h => ?_)
      · refine pw_sub (lv1 := [(0, .ref v0), (2, .int v2), (3, .int v3), (4, .int v4), (5, .int v5)]) [0, 1, 2, 3, 4] rfl ?_
        exact bl_X7_share_b67 hX (g_X7_share_b21 n) ih F v0 v2 v3 v4 v5 h
      · refine pw_aload_n hO dX7_share_35 0 rfl ?_
        refine pw_iload hO dX7_share_36 4 rfl ?_
        refine pw_iconst hO dX7_share_38 (v := 0) (by decide) ?_
        refine pw_VI (a := v0) (ci := 7) (as := [.int v5, .int 0]) (st := []) (d := 5) hO [.int 0, .int v5, .ref v0] dX7_share_39 vl_X7_194 h (fun r F1 hg n => ct_X7_energyOf hg) ⟨Nat.le_of_ble_eq_true rfl, Nat.le_of_ble_eq_true rfl⟩ ⟨Nat.zero_le _, Nat.zero_le _⟩ (Nat.le_of_ble_eq_true rfl) (fun _ _ => rfl) rfl (fun x9 F8 h => ?_)
        refine pw_aload_n hO dX7_share_42 0 rfl ?_
        refine pw_iload hO dX7_share_43 4 rfl ?_
        refine pw_iload_n hO dX7_share_45 2 rfl ?_
        refine pw_ior hO dX7_share_46 ?_
        refine pw_iconst hO dX7_share_47 (v := 0) (by decide) ?_
        refine pw_VI (a := v0) (ci := 7) (as := [.int (v5 ||| v3), .int 0]) (st := [.int x9]) (d := 5) hO [.int 0, .int (v5 ||| v3), .ref v0, .int x9] dX7_share_48 vl_X7_194 h (fun r F1 hg n => ct_X7_energyOf hg) ⟨Nat.le_of_ble_eq_true rfl, Nat.le_of_ble_eq_true rfl⟩ ⟨Nat.zero_le _, Nat.zero_le _⟩ (Nat.le_of_ble_eq_true rfl) (fun _ _ => rfl) rfl (fun x11 F10 h => ?_)
        refine pw_isub hO dX7_share_51 ?_
        refine pw_istore hO [(6, .int (x9 - x11)), (0, .ref v0), (2, .int v2), (3, .int v3), (4, .int v4), (5, .int v5)] dX7_share_52 (by decide) rfl ?_
        refine pw_iload hO dX7_share_54 4 rfl ?_
        refine pw_iload hO dX7_share_56 5 rfl ?_
        refine pw_SI (as := [.int v5]) (st := [.int v4]) (d := 1) hO [.int v5, .int v4] dX7_share_58 sl_X7_198 h (fun r F1 hg n => ct_X7_ordersBehind hg) ⟨Nat.le_of_ble_eq_true rfl, Nat.le_of_ble_eq_true rfl⟩ ⟨Nat.zero_le _, Nat.zero_le _⟩ (Nat.le_of_ble_eq_true rfl) (fun _ _ => rfl) rfl (fun x13 F12 h => ?_)
        refine pw_iload hO dX7_share_61 0 rfl ?_
        refine pw_imul hO dX7_share_63 ?_
        refine pw_iadd hO dX7_share_64 ?_
        refine pw_istore hO [(4, .int (v4 + (x13 * (x9 - x11)))), (6, .int (x9 - x11)), (0, .ref v0), (2, .int v2), (3, .int v3), (5, .int v5)] dX7_share_65 (by decide) rfl ?_
        refine pw_sub (lv1 := [(0, .ref v0), (2, .int v2), (3, .int v3), (4, .int (v4 + (x13 * (x9 - x11)))), (5, .int v5)]) [2, 3, 4, 0, 5] rfl ?_
        exact bl_X7_share_b67 hX (g_X7_share_b21 n) ih F12 v0 v2 v3 ((v4 + (x13 * (x9 - x11)))) v5 h
def g_X7_share (F : Hp) (a0 : Nat) (a1 : Int32) (a2 : Int32) : Option (Int32 × Hp) := (bnd2 (g_X7_isWithin F a1 0 2) fun x2 F1 => (if x2 = 0 then some ((-1), F1) else g_X7_share_b21 gF F1 a0 a2 ((1 <<< (a1 &&& 31))) 0 0))
set_option maxHeartbeats 4000000 in
theorem bl_X7_share {X : Cx} {rx : Int32} {F' : Hp} (hX : Md X cX7_share RX7 7 (rmd 6) (some FieldType.int) false (some (.int rx)) F') (F : Hp) (a0 : Nat) (a1 : Int32) (a2 : Int32) (h : g_X7_share F a0 a1 a2 = some (rx, F')) : PW X 0 0 F 0 [(0, .ref a0), (1, .int a1), (2, .int a2)] [] := by
  have hO := hX.1
  unfold g_X7_share at h
  refine pw_iload_n hO dX7_share_0 1 rfl ?_
  refine pw_iconst hO dX7_share_1 (v := 0) (by decide) ?_
  refine pw_iconst hO dX7_share_2 (v := 2) (by decide) ?_
  refine pw_SI (as := [.int a1, .int 0, .int 2]) (st := []) (d := 0) hO [.int 2, .int 0, .int a1] dX7_share_3 sl_X7_61 h (fun r F1 hg n => ct_X7_isWithin hg) ⟨Nat.le_of_ble_eq_true rfl, Nat.le_of_ble_eq_true rfl⟩ ⟨Nat.zero_le _, Nat.zero_le _⟩ (Nat.le_of_ble_eq_true rfl) (fun _ _ => rfl) rfl (fun x2 F1 h => ?_)
  refine pw_if_ne (tgt := 11) hO dX7_share_6 (by decide) h (fun c3 h => ?_) (fun c3 h => ?_)
  · refine pw_iconst hO dX7_share_11 (v := 1) (by decide) ?_
    refine pw_iload_n hO dX7_share_12 1 rfl ?_
    refine pw_ishl hO dX7_share_13 ?_
    refine pw_istore_n hO [(3, .int (1 <<< (a1 &&& 31))), (0, .ref a0), (1, .int a1), (2, .int a2)] dX7_share_14 (by decide) rfl ?_
    refine pw_iconst hO dX7_share_15 (v := 0) (by decide) ?_
    refine pw_istore hO [(4, .int 0), (3, .int (1 <<< (a1 &&& 31))), (0, .ref a0), (1, .int a1), (2, .int a2)] dX7_share_16 (by decide) rfl ?_
    refine pw_iconst hO dX7_share_18 (v := 0) (by decide) ?_
    refine pw_istore hO [(5, .int 0), (4, .int 0), (3, .int (1 <<< (a1 &&& 31))), (0, .ref a0), (1, .int a1), (2, .int a2)] dX7_share_19 (by decide) rfl ?_
    refine pw_sub (lv1 := [(0, .ref a0), (2, .int a2), (3, .int (1 <<< (a1 &&& 31))), (4, .int 0), (5, .int 0)]) [3, 5, 2, 1, 0] rfl ?_
    exact bl_X7_share_b21 hX gF F1 a0 a2 ((1 <<< (a1 &&& 31))) 0 0 h
  · refine pw_iconst hO dX7_share_9 (v := (-1)) (by decide) ?_
    exact pw_iret hO hX.2 dX7_share_10 h
theorem ct_X7_share {n : Nat} {F : Hp} {a0 : Nat} {a1 : Int32} {a2 : Int32} {rx : Int32} {F' : Hp} (h : g_X7_share F a0 a1 a2 = some (rx, F')) : CT yX7_share cX7_share 7 (some FieldType.int) (rmd 6) n F [.ref a0, .int a1, .int a2] (some (.int rx)) F' :=
  ct_intro (own := RX7) (nm := false) (by decide) rfl (fun h => by cases h) (Nat.le_of_ble_eq_true rfl) (fun X hn hX => bl_X7_share hX F a0 a1 a2 h)
def g_X7_weightOf_b30 (rec5 : Hp → Int32 → Int32 → Int32 → Int32 → Int32 → Option (Int32 × Hp)) (F : Hp) (v0 : Int32) (v1 : Int32) (v2 : Int32) (v4 : Int32) (s0 : Int32) (s1 : Int32) : Option (Int32 × Hp) := rec5 F v0 v1 v2 ((s0 * s1)) ((v4 + 1))
set_option maxHeartbeats 4000000 in
theorem bl_X7_weightOf_b30 {X : Cx} {rx : Int32} {F' : Hp} (hX : Md X cX7_weightOf RX7 5 (rmd 0) (some FieldType.int) false (some (.int rx)) F') (rec5 : Hp → Int32 → Int32 → Int32 → Int32 → Int32 → Option (Int32 × Hp)) (hrec5 : ∀ (F : Hp) (v0 : Int32) (v1 : Int32) (v2 : Int32) (v3 : Int32) (v4 : Int32), rec5 F v0 v1 v2 v3 v4 = some (rx, F') → PW X 0 0 F 5 [(0, .int v0), (1, .int v1), (2, .int v2), (3, .int v3), (4, .int v4)] []) (F : Hp) (v0 : Int32) (v1 : Int32) (v2 : Int32) (v4 : Int32) (s0 : Int32) (s1 : Int32) (h : g_X7_weightOf_b30 rec5 F v0 v1 v2 v4 s0 s1 = some (rx, F')) : PW X 0 0 F 30 [(0, .int v0), (1, .int v1), (2, .int v2), (4, .int v4)] [.int s1, .int s0] := by
  have hO := hX.1
  unfold g_X7_weightOf_b30 at h
  refine pw_imul hO dX7_weightOf_30 ?_
  refine pw_istore_n hO [(3, .int (s0 * s1)), (0, .int v0), (1, .int v1), (2, .int v2), (4, .int v4)] dX7_weightOf_31 (by decide) rfl ?_
  refine pw_iinc hO [(4, .int (v4 + 1)), (3, .int (s0 * s1)), (0, .int v0), (1, .int v1), (2, .int v2)] dX7_weightOf_32 4 rfl rfl (by decide) rfl ?_
  refine pw_goto (tgt := 5) hO dX7_weightOf_35 (by decide) ?_
  refine pw_sub (lv1 := [(0, .int v0), (1, .int v1), (2, .int v2), (3, .int (s0 * s1)), (4, .int (v4 + 1))]) [2, 3, 4, 1, 0] rfl ?_
  exact hrec5 F v0 v1 v2 ((s0 * s1)) ((v4 + 1)) h
def g_X7_weightOf_b5 : Nat → Hp → Int32 → Int32 → Int32 → Int32 → Int32 → Option (Int32 × Hp)
  | 0, _, _, _, _, _, _ => none
  | n + 1, F, v0, v1, v2, v3, v4 => (if v1 ≤ v4 then some (v3, F) else (if ((v0 >>> (v4 &&& 31)) &&& 1) = 1 then g_X7_weightOf_b30 (g_X7_weightOf_b5 n) F v0 v1 v2 v4 v3 v2 else g_X7_weightOf_b30 (g_X7_weightOf_b5 n) F v0 v1 v2 v4 v3 ((10 - v2))))
set_option maxHeartbeats 4000000 in
theorem bl_X7_weightOf_b5 {X : Cx} {rx : Int32} {F' : Hp} (hX : Md X cX7_weightOf RX7 5 (rmd 0) (some FieldType.int) false (some (.int rx)) F') : ∀ (n : Nat) (F : Hp) (v0 : Int32) (v1 : Int32) (v2 : Int32) (v3 : Int32) (v4 : Int32), g_X7_weightOf_b5 n F v0 v1 v2 v3 v4 = some (rx, F') → PW X 0 0 F 5 [(0, .int v0), (1, .int v1), (2, .int v2), (3, .int v3), (4, .int v4)] [] := by
  have hO := hX.1
  intro n
  induction n with
  | zero => intro F v0 v1 v2 v3 v4 h; rw [g_X7_weightOf_b5] at h; cases h
  | succ n ih =>
    intro F v0 v1 v2 v3 v4 h
    rw [g_X7_weightOf_b5] at h
    refine pw_iload hO dX7_weightOf_5 4 rfl ?_
    refine pw_iload_n hO dX7_weightOf_7 1 rfl ?_
    refine pw_icmp_ge (tgt := 38) hO dX7_weightOf_8 (by decide) h (fun c1 h => ?_) (fun c1 h => ?_)
    · refine pw_iload_n hO dX7_weightOf_38 3 rfl ?_
      exact pw_iret hO hX.2 dX7_weightOf_39 h
    · refine pw_iload_n hO dX7_weightOf_11 3 rfl ?_
      refine pw_iload_n hO dX7_weightOf_12 0 rfl ?_
      refine pw_iload hO dX7_weightOf_13 4 rfl ?_
      refine pw_ishr hO dX7_weightOf_15 ?_
      refine pw_iconst hO dX7_weightOf_16 (v := 1) (by decide) ?_
      refine pw_iand hO dX7_weightOf_17 ?_
      refine pw_iconst hO dX7_weightOf_18 (v := 1) (by decide) ?_
      refine pw_icmp_ne (tgt := 26) hO dX7_weightOf_19 (by decide) h (fun c2 h => ?_) (fun c2 h => ?_)
      · refine pw_bipush hO dX7_weightOf_26 (v := 10) (by decide) ?_
        refine pw_iload_n hO dX7_weightOf_28 2 rfl ?_
        refine pw_isub hO dX7_weightOf_29 ?_
        refine pw_sub (lv1 := [(0, .int v0), (1, .int v1), (2, .int v2), (4, .int v4)]) [0, 1, 2, 4] rfl ?_
        exact bl_X7_weightOf_b30 hX (g_X7_weightOf_b5 n) ih F v0 v1 v2 v4 v3 ((10 - v2)) h
      · refine pw_iload_n hO dX7_weightOf_22 2 rfl ?_
        refine pw_goto (tgt := 30) hO dX7_weightOf_23 (by decide) ?_
        refine pw_sub (lv1 := [(0, .int v0), (1, .int v1), (2, .int v2), (4, .int v4)]) [0, 1, 2, 4] rfl ?_
        exact bl_X7_weightOf_b30 hX (g_X7_weightOf_b5 n) ih F v0 v1 v2 v4 v3 v2 h
def g_X7_weightOf (F : Hp) (a0 : Int32) (a1 : Int32) (a2 : Int32) : Option (Int32 × Hp) := g_X7_weightOf_b5 gF F a0 a1 a2 1 0
set_option maxHeartbeats 4000000 in
theorem bl_X7_weightOf {X : Cx} {rx : Int32} {F' : Hp} (hX : Md X cX7_weightOf RX7 5 (rmd 0) (some FieldType.int) false (some (.int rx)) F') (F : Hp) (a0 : Int32) (a1 : Int32) (a2 : Int32) (h : g_X7_weightOf F a0 a1 a2 = some (rx, F')) : PW X 0 0 F 0 [(0, .int a0), (1, .int a1), (2, .int a2)] [] := by
  have hO := hX.1
  unfold g_X7_weightOf at h
  refine pw_iconst hO dX7_weightOf_0 (v := 1) (by decide) ?_
  refine pw_istore_n hO [(3, .int 1), (0, .int a0), (1, .int a1), (2, .int a2)] dX7_weightOf_1 (by decide) rfl ?_
  refine pw_iconst hO dX7_weightOf_2 (v := 0) (by decide) ?_
  refine pw_istore hO [(4, .int 0), (3, .int 1), (0, .int a0), (1, .int a1), (2, .int a2)] dX7_weightOf_3 (by decide) rfl ?_
  refine pw_sub (lv1 := [(0, .int a0), (1, .int a1), (2, .int a2), (3, .int 1), (4, .int 0)]) [2, 3, 4, 1, 0] rfl ?_
  exact bl_X7_weightOf_b5 hX gF F a0 a1 a2 1 0 h
theorem ct_X7_weightOf {n : Nat} {F : Hp} {a0 : Int32} {a1 : Int32} {a2 : Int32} {rx : Int32} {F' : Hp} (h : g_X7_weightOf F a0 a1 a2 = some (rx, F')) : CT yX7_weightOf cX7_weightOf 5 (some FieldType.int) (rmd 0) n F [.int a0, .int a1, .int a2] (some (.int rx)) F' :=
  ct_intro (own := RX7) (nm := false) (by decide) rfl (fun h => by cases h) (Nat.le_of_ble_eq_true rfl) (fun X hn hX => bl_X7_weightOf hX F a0 a1 a2 h)
def g_X7_luck_b106 (rec56 : Hp → Nat → Int32 → Int32 → Int32 → Int32 → Int32 → Int32 → Int32 → Option (Int32 × Hp)) (F : Hp) (v0 : Nat) (v2 : Int32) (v3 : Int32) (v4 : Int32) (v5 : Int32) (v6 : Int32) (v7 : Int32) (v8 : Int32) : Option (Int32 × Hp) := rec56 F v0 v2 v3 v4 v5 v6 v7 ((v8 + 1))
set_option maxHeartbeats 4000000 in
theorem bl_X7_luck_b106 {X : Cx} {rx : Int32} {F' : Hp} (hX : Md X cX7_luck RX7 10 (rmd 6) (some FieldType.int) false (some (.int rx)) F') (rec56 : Hp → Nat → Int32 → Int32 → Int32 → Int32 → Int32 → Int32 → Int32 → Option (Int32 × Hp)) (hrec56 : ∀ (F : Hp) (v0 : Nat) (v2 : Int32) (v3 : Int32) (v4 : Int32) (v5 : Int32) (v6 : Int32) (v7 : Int32) (v8 : Int32), rec56 F v0 v2 v3 v4 v5 v6 v7 v8 = some (rx, F') → PW X 0 0 F 56 [(0, .ref v0), (2, .int v2), (3, .int v3), (4, .int v4), (5, .int v5), (6, .int v6), (7, .int v7), (8, .int v8)] []) (F : Hp) (v0 : Nat) (v2 : Int32) (v3 : Int32) (v4 : Int32) (v5 : Int32) (v6 : Int32) (v7 : Int32) (v8 : Int32) (h : g_X7_luck_b106 rec56 F v0 v2 v3 v4 v5 v6 v7 v8 = some (rx, F')) : PW X 0 0 F 106 [(0, .ref v0), (2, .int v2), (3, .int v3), (4, .int v4), (5, .int v5), (6, .int v6), (7, .int v7), (8, .int v8)] [] := by
  have hO := hX.1
  unfold g_X7_luck_b106 at h
  refine pw_iinc hO [(8, .int (v8 + 1)), (0, .ref v0), (2, .int v2), (3, .int v3), (4, .int v4), (5, .int v5), (6, .int v6), (7, .int v7)] dX7_luck_106 7 rfl rfl (by decide) rfl ?_
  refine pw_goto (tgt := 56) hO dX7_luck_109 (by decide) ?_
  refine pw_sub (lv1 := [(0, .ref v0), (2, .int v2), (3, .int v3), (4, .int v4), (5, .int v5), (6, .int v6), (7, .int v7), (8, .int (v8 + 1))]) [1, 2, 3, 4, 5, 6, 7, 0] rfl ?_
  exact hrec56 F v0 v2 v3 v4 v5 v6 v7 ((v8 + 1)) h
def g_X7_luck_b56 : Nat → Hp → Nat → Int32 → Int32 → Int32 → Int32 → Int32 → Int32 → Int32 → Option (Int32 × Hp)
  | 0, _, _, _, _, _, _, _, _, _ => none
  | n + 1, F, v0, v2, v3, v4, v5, v6, v7, v8 => (if (1 <<< (v5 &&& 31)) ≤ v8 then (bnd2 (g_X7_fraction F v6 v7 v4) fun x15 F14 => some (x15, F14)) else (bnd2 (g_X7_weightOf F v8 v5 v3) fun x17 F16 => (if x17 ≤ 0 then g_X7_luck_b106 (g_X7_luck_b56 n) F16 v0 v2 v3 v4 v5 v6 ((v7 + x17)) v8 else (ckO F16 v0 7 (bnd2 (g_X7_energyOf F16 v0 7 v8) fun x20 F19 => (if v2 < x20 then g_X7_luck_b106 (g_X7_luck_b56 n) F19 v0 v2 v3 v4 v5 v6 ((v7 + x17)) v8 else g_X7_luck_b106 (g_X7_luck_b56 n) F19 v0 v2 v3 v4 v5 ((v6 + x17)) ((v7 + x17)) v8))))))
set_option maxHeartbeats 4000000 in
theorem bl_X7_luck_b56 {X : Cx} {rx : Int32} {F' : Hp} (hX : Md X cX7_luck RX7 10 (rmd 6) (some FieldType.int) false (some (.int rx)) F') : ∀ (n : Nat) (F : Hp) (v0 : Nat) (v2 : Int32) (v3 : Int32) (v4 : Int32) (v5 : Int32) (v6 : Int32) (v7 : Int32) (v8 : Int32), g_X7_luck_b56 n F v0 v2 v3 v4 v5 v6 v7 v8 = some (rx, F') → PW X 0 0 F 56 [(0, .ref v0), (2, .int v2), (3, .int v3), (4, .int v4), (5, .int v5), (6, .int v6), (7, .int v7), (8, .int v8)] [] := by
  have hO := hX.1
  intro n
  induction n with
  | zero => intro F v0 v2 v3 v4 v5 v6 v7 v8 h; rw [g_X7_luck_b56] at h; cases h
  | succ n ih =>
    intro F v0 v2 v3 v4 v5 v6 v7 v8 h
    rw [g_X7_luck_b56] at h
    refine pw_iload hO dX7_luck_56 7 rfl ?_
    refine pw_iconst hO dX7_luck_58 (v := 1) (by decide) ?_
    refine pw_iload hO dX7_luck_59 4 rfl ?_
    refine pw_ishl hO dX7_luck_61 ?_
    refine pw_icmp_ge (tgt := 112) hO dX7_luck_62 (by decide) h (fun c13 h => ?_) (fun c13 h => ?_)
    · refine pw_iload hO dX7_luck_112 5 rfl ?_
      refine pw_iload hO dX7_luck_114 6 rfl ?_
      refine pw_iload hO dX7_luck_116 3 rfl ?_
      refine pw_SI (as := [.int v6, .int v7, .int v4]) (st := []) (d := 1) hO [.int v4, .int v7, .int v6] dX7_luck_118 sl_X7_201 h (fun r F1 hg n => ct_X7_fraction hg) ⟨Nat.le_of_ble_eq_true rfl, Nat.le_of_ble_eq_true rfl⟩ ⟨Nat.zero_le _, Nat.zero_le _⟩ (Nat.le_of_ble_eq_true rfl) (fun _ _ => rfl) rfl (fun x15 F14 h => ?_)
      exact pw_iret hO hX.2 dX7_luck_121 h
    · refine pw_iload hO dX7_luck_65 7 rfl ?_
      refine pw_iload hO dX7_luck_67 4 rfl ?_
      refine pw_iload_n hO dX7_luck_69 2 rfl ?_
      refine pw_SI (as := [.int v8, .int v5, .int v3]) (st := []) (d := 0) hO [.int v3, .int v5, .int v8] dX7_luck_70 sl_X7_210 h (fun r F1 hg n => ct_X7_weightOf hg) ⟨Nat.le_of_ble_eq_true rfl, Nat.le_of_ble_eq_true rfl⟩ ⟨Nat.zero_le _, Nat.zero_le _⟩ (Nat.le_of_ble_eq_true rfl) (fun _ _ => rfl) rfl (fun x17 F16 h => ?_)
      refine pw_istore hO [(9, .int x17), (0, .ref v0), (2, .int v2), (3, .int v3), (4, .int v4), (5, .int v5), (6, .int v6), (7, .int v7), (8, .int v8)] dX7_luck_73 (by decide) rfl ?_
      refine pw_iload hO dX7_luck_75 7 rfl ?_
      refine pw_iload hO dX7_luck_77 0 rfl ?_
      refine pw_iadd hO dX7_luck_79 ?_
      refine pw_istore hO [(7, .int (v7 + x17)), (9, .int x17), (0, .ref v0), (2, .int v2), (3, .int v3), (4, .int v4), (5, .int v5), (6, .int v6), (8, .int v8)] dX7_luck_80 (by decide) rfl ?_
      refine pw_iload hO dX7_luck_82 1 rfl ?_
      refine pw_if_le (tgt := 106) hO dX7_luck_84 (by decide) h (fun c18 h => ?_) (fun c18 h => ?_)
      · refine pw_sub (lv1 := [(0, .ref v0), (2, .int v2), (3, .int v3), (4, .int v4), (5, .int v5), (6, .int v6), (7, .int (v7 + x17)), (8, .int v8)]) [2, 3, 4, 5, 6, 7, 0, 8] rfl ?_
        exact bl_X7_luck_b106 hX (g_X7_luck_b56 n) ih F16 v0 v2 v3 v4 v5 v6 ((v7 + x17)) v8 h
      · refine pw_aload_n hO dX7_luck_87 2 rfl ?_
        refine pw_bipush hO dX7_luck_88 (v := 7) (by decide) ?_
        refine pw_iload hO dX7_luck_90 8 rfl ?_
        refine pw_VI (a := v0) (ci := 7) (as := [.int 7, .int v8]) (st := []) (d := 5) hO [.int v8, .int 7, .ref v0] dX7_luck_92 vl_X7_194 h (fun r F1 hg n => ct_X7_energyOf hg) ⟨Nat.le_of_ble_eq_true rfl, Nat.le_of_ble_eq_true rfl⟩ ⟨Nat.zero_le _, Nat.zero_le _⟩ (Nat.le_of_ble_eq_true rfl) (fun _ _ => rfl) rfl (fun x20 F19 h => ?_)
        refine pw_iload_n hO dX7_luck_95 3 rfl ?_
        refine pw_icmp_gt (tgt := 106) hO dX7_luck_96 (by decide) h (fun c21 h => ?_) (fun c21 h => ?_)
        · refine pw_sub (lv1 := [(0, .ref v0), (2, .int v2), (3, .int v3), (4, .int v4), (5, .int v5), (6, .int v6), (7, .int (v7 + x17)), (8, .int v8)]) [2, 3, 4, 5, 6, 7, 0, 8] rfl ?_
          exact bl_X7_luck_b106 hX (g_X7_luck_b56 n) ih F19 v0 v2 v3 v4 v5 v6 ((v7 + x17)) v8 h
        · refine pw_iload hO dX7_luck_99 7 rfl ?_
          refine pw_iload hO dX7_luck_101 1 rfl ?_
          refine pw_iadd hO dX7_luck_103 ?_
          refine pw_istore hO [(6, .int (v6 + x17)), (7, .int (v7 + x17)), (9, .int x17), (0, .ref v0), (2, .int v2), (3, .int v3), (4, .int v4), (5, .int v5), (8, .int v8)] dX7_luck_104 (by decide) rfl ?_
          refine pw_sub (lv1 := [(0, .ref v0), (2, .int v2), (3, .int v3), (4, .int v4), (5, .int v5), (6, .int (v6 + x17)), (7, .int (v7 + x17)), (8, .int v8)]) [3, 4, 5, 6, 7, 0, 1, 8] rfl ?_
          exact bl_X7_luck_b106 hX (g_X7_luck_b56 n) ih F19 v0 v2 v3 v4 v5 ((v6 + x17)) ((v7 + x17)) v8 h
def g_X7_luck (F : Hp) (a0 : Nat) (a1 : Int32) (a2 : Int32) (a3 : Int32) (a4 : Int32) : Option (Int32 × Hp) := (bnd2 (g_X7_isWithin F a1 0 6) fun x2 F1 => (if x2 = 0 then some ((-2), F1) else (bnd2 (g_X7_isWithin F1 a2 0 9999) fun x5 F4 => (if x5 = 0 then some ((-2), F4) else (bnd2 (g_X7_isWithin F4 a3 0 10) fun x8 F7 => (if x8 = 0 then some ((-2), F7) else ((gR F7 a0 7 1).bind fun q10 => (ckO F7 q10 2 (bnd2 (g_X2_letters F7 q10) fun x12 F11 => g_X7_luck_b56 gF F11 a0 a2 a3 a4 ((jmin a1 x12)) 0 0 0)))))))))
set_option maxHeartbeats 4000000 in
theorem bl_X7_luck {X : Cx} {rx : Int32} {F' : Hp} (hX : Md X cX7_luck RX7 10 (rmd 6) (some FieldType.int) false (some (.int rx)) F') (F : Hp) (a0 : Nat) (a1 : Int32) (a2 : Int32) (a3 : Int32) (a4 : Int32) (h : g_X7_luck F a0 a1 a2 a3 a4 = some (rx, F')) : PW X 0 0 F 0 [(0, .ref a0), (1, .int a1), (2, .int a2), (3, .int a3), (4, .int a4)] [] := by
  have hO := hX.1
  unfold g_X7_luck at h
  refine pw_iload_n hO dX7_luck_0 1 rfl ?_
  refine pw_iconst hO dX7_luck_1 (v := 0) (by decide) ?_
  refine pw_bipush hO dX7_luck_2 (v := 6) (by decide) ?_
  refine pw_SI (as := [.int a1, .int 0, .int 6]) (st := []) (d := 0) hO [.int 6, .int 0, .int a1] dX7_luck_4 sl_X7_61 h (fun r F1 hg n => ct_X7_isWithin hg) ⟨Nat.le_of_ble_eq_true rfl, Nat.le_of_ble_eq_true rfl⟩ ⟨Nat.zero_le _, Nat.zero_le _⟩ (Nat.le_of_ble_eq_true rfl) (fun _ _ => rfl) rfl (fun x2 F1 h => ?_)
  refine pw_if_eq (tgt := 31) hO dX7_luck_7 (by decide) h (fun c3 h => ?_) (fun c3 h => ?_)
  · refine pw_bipush hO dX7_luck_31 (v := (-2)) (by decide) ?_
    exact pw_iret hO hX.2 dX7_luck_33 h
  · refine pw_iload_n hO dX7_luck_10 2 rfl ?_
    refine pw_iconst hO dX7_luck_11 (v := 0) (by decide) ?_
    refine pw_sipush hO dX7_luck_12 (v := 9999) (by decide) ?_
    refine pw_SI (as := [.int a2, .int 0, .int 9999]) (st := []) (d := 0) hO [.int 9999, .int 0, .int a2] dX7_luck_15 sl_X7_61 h (fun r F1 hg n => ct_X7_isWithin hg) ⟨Nat.le_of_ble_eq_true rfl, Nat.le_of_ble_eq_true rfl⟩ ⟨Nat.zero_le _, Nat.zero_le _⟩ (Nat.le_of_ble_eq_true rfl) (fun _ _ => rfl) rfl (fun x5 F4 h => ?_)
    refine pw_if_eq (tgt := 31) hO dX7_luck_18 (by decide) h (fun c6 h => ?_) (fun c6 h => ?_)
    · refine pw_bipush hO dX7_luck_31 (v := (-2)) (by decide) ?_
      exact pw_iret hO hX.2 dX7_luck_33 h
    · refine pw_iload_n hO dX7_luck_21 3 rfl ?_
      refine pw_iconst hO dX7_luck_22 (v := 0) (by decide) ?_
      refine pw_bipush hO dX7_luck_23 (v := 10) (by decide) ?_
      refine pw_SI (as := [.int a3, .int 0, .int 10]) (st := []) (d := 0) hO [.int 10, .int 0, .int a3] dX7_luck_25 sl_X7_61 h (fun r F1 hg n => ct_X7_isWithin hg) ⟨Nat.le_of_ble_eq_true rfl, Nat.le_of_ble_eq_true rfl⟩ ⟨Nat.zero_le _, Nat.zero_le _⟩ (Nat.le_of_ble_eq_true rfl) (fun _ _ => rfl) rfl (fun x8 F7 h => ?_)
      refine pw_if_ne (tgt := 34) hO dX7_luck_28 (by decide) h (fun c9 h => ?_) (fun c9 h => ?_)
      · refine pw_iload_n hO dX7_luck_34 1 rfl ?_
        refine pw_aload_n hO dX7_luck_35 0 rfl ?_
        refine pw_getR hO dX7_luck_36 fl_X7_19 h (fun q10 h => ?_)
        refine pw_VI (a := q10) (ci := 2) (as := []) (st := [.int a1]) (d := 1) hO [.ref q10, .int a1] dX7_luck_39 vl_X7_165 h (fun r F1 hg n => ct_X2_letters hg) ⟨Nat.le_of_ble_eq_true rfl, Nat.le_of_ble_eq_true rfl⟩ ⟨Nat.zero_le _, Nat.zero_le _⟩ (Nat.le_of_ble_eq_true rfl) (fun _ _ => rfl) rfl (fun x12 F11 h => ?_)
        refine pw_mmin (st := []) hO dX7_luck_42 mt_X7_205 (Nat.le_of_ble_eq_true rfl) (Nat.le_of_ble_eq_true rfl) ⟨Nat.zero_le _, Nat.zero_le _⟩ (Nat.le_of_ble_eq_true rfl) ?_
        refine pw_istore hO [(5, .int (jmin a1 x12)), (0, .ref a0), (1, .int a1), (2, .int a2), (3, .int a3), (4, .int a4)] dX7_luck_45 (by decide) rfl ?_
        refine pw_iconst hO dX7_luck_47 (v := 0) (by decide) ?_
        refine pw_istore hO [(6, .int 0), (5, .int (jmin a1 x12)), (0, .ref a0), (1, .int a1), (2, .int a2), (3, .int a3), (4, .int a4)] dX7_luck_48 (by decide) rfl ?_
        refine pw_iconst hO dX7_luck_50 (v := 0) (by decide) ?_
        refine pw_istore hO [(7, .int 0), (6, .int 0), (5, .int (jmin a1 x12)), (0, .ref a0), (1, .int a1), (2, .int a2), (3, .int a3), (4, .int a4)] dX7_luck_51 (by decide) rfl ?_
        refine pw_iconst hO dX7_luck_53 (v := 0) (by decide) ?_
        refine pw_istore hO [(8, .int 0), (7, .int 0), (6, .int 0), (5, .int (jmin a1 x12)), (0, .ref a0), (1, .int a1), (2, .int a2), (3, .int a3), (4, .int a4)] dX7_luck_54 (by decide) rfl ?_
        refine pw_sub (lv1 := [(0, .ref a0), (2, .int a2), (3, .int a3), (4, .int a4), (5, .int (jmin a1 x12)), (6, .int 0), (7, .int 0), (8, .int 0)]) [4, 6, 7, 8, 3, 2, 1, 0] rfl ?_
        exact bl_X7_luck_b56 hX gF F11 a0 a2 a3 a4 ((jmin a1 x12)) 0 0 0 h
      · refine pw_bipush hO dX7_luck_31 (v := (-2)) (by decide) ?_
        exact pw_iret hO hX.2 dX7_luck_33 h
theorem ct_X7_luck {n : Nat} {F : Hp} {a0 : Nat} {a1 : Int32} {a2 : Int32} {a3 : Int32} {a4 : Int32} {rx : Int32} {F' : Hp} (h : g_X7_luck F a0 a1 a2 a3 a4 = some (rx, F')) : CT yX7_luck cX7_luck 10 (some FieldType.int) (rmd 6) n F [.ref a0, .int a1, .int a2, .int a3, .int a4] (some (.int rx)) F' :=
  ct_intro (own := RX7) (nm := false) (by decide) rfl (fun h => by cases h) (Nat.le_of_ble_eq_true rfl) (fun X hn hX => bl_X7_luck hX F a0 a1 a2 a3 a4 h)
def g_X7_seed (F : Hp) (a0 : Nat) (a1 : Int64) : Option (Int64 × Hp) := ((gL F a0 7 8).bind fun x1 => ((pV F a0 7 8 (.long a1)).bind fun F2 => some (x1, F2)))
set_option maxHeartbeats 4000000 in
theorem bl_X7_seed {X : Cx} {rx : Int64} {F' : Hp} (hX : Md X cX7_seed RX7 5 (rmd 0) (some FieldType.long) false (some (.long rx)) F') (F : Hp) (a0 : Nat) (a1 : Int64) (h : g_X7_seed F a0 a1 = some (rx, F')) : PW X 0 0 F 0 [(0, .ref a0), (1, .long a1)] [] := by
  have hO := hX.1
  unfold g_X7_seed at h
  refine pw_aload_n hO dX7_seed_0 0 rfl ?_
  refine pw_getL hO dX7_seed_1 fl_X7_57 h (fun x1 h => ?_)
  refine pw_lstore_n hO [(3, .long x1), (0, .ref a0), (1, .long a1)] dX7_seed_4 (by decide) rfl ?_
  refine pw_aload_n hO dX7_seed_5 1 rfl ?_
  refine pw_lload_n hO dX7_seed_6 2 rfl ?_
  refine pw_putL hO dX7_seed_7 fp_X7_57 h (fun F2 h => ?_)
  refine pw_lload_n hO dX7_seed_10 0 rfl ?_
  exact pw_lret hO hX.2 dX7_seed_11 h
theorem ct_X7_seed {n : Nat} {F : Hp} {a0 : Nat} {a1 : Int64} {rx : Int64} {F' : Hp} (h : g_X7_seed F a0 a1 = some (rx, F')) : CT yX7_seed cX7_seed 5 (some FieldType.long) (rmd 0) n F [.ref a0, .long a1] (some (.long rx)) F' :=
  ct_intro (own := RX7) (nm := false) (by decide) rfl (fun h => by cases h) (Nat.le_of_ble_eq_true rfl) (fun X hn hX => bl_X7_seed hX F a0 a1 h)
def g_X7_drawn_b76 (rec26 : Hp → Nat → Int32 → Int32 → Option (Int32 × Hp)) (F : Hp) (v0 : Nat) (v1 : Int32) (v2 : Int32) : Option (Int32 × Hp) := ((gR F v0 7 3).bind fun q17 => (ckO F q17 1 ((g_X1_tick F q17).bind fun F18 => rec26 F18 v0 v1 ((v2 + 1)))))
set_option maxHeartbeats 4000000 in
theorem bl_X7_drawn_b76 {X : Cx} {rx : Int32} {F' : Hp} (hX : Md X cX7_drawn RX7 4 (rmd 3) (some FieldType.int) false (some (.int rx)) F') (rec26 : Hp → Nat → Int32 → Int32 → Option (Int32 × Hp)) (hrec26 : ∀ (F : Hp) (v0 : Nat) (v1 : Int32) (v2 : Int32), rec26 F v0 v1 v2 = some (rx, F') → PW X 0 0 F 26 [(0, .ref v0), (1, .int v1), (2, .int v2)] []) (F : Hp) (v0 : Nat) (v1 : Int32) (v2 : Int32) (h : g_X7_drawn_b76 rec26 F v0 v1 v2 = some (rx, F')) : PW X 0 0 F 76 [(0, .ref v0), (1, .int v1), (2, .int v2)] [] := by
  have hO := hX.1
  unfold g_X7_drawn_b76 at h
  refine pw_aload_n hO dX7_drawn_76 0 rfl ?_
  refine pw_getR hO dX7_drawn_77 fl_X7_30 h (fun q17 h => ?_)
  refine pw_V0 (a := q17) (ci := 1) (as := []) (st := []) (d := 2) hO [.ref q17] dX7_drawn_80 vl_X7_217 h (fun F1 hg n => ct_X1_tick hg) ⟨Nat.le_of_ble_eq_true rfl, Nat.le_of_ble_eq_true rfl⟩ ⟨Nat.zero_le _, Nat.zero_le _⟩ (Nat.le_of_ble_eq_true rfl) (fun _ _ => rfl) rfl (fun F18 h => ?_)
  refine pw_iinc hO [(2, .int (v2 + 1)), (0, .ref v0), (1, .int v1)] dX7_drawn_83 2 rfl rfl (by decide) rfl ?_
  refine pw_goto (tgt := 26) hO dX7_drawn_86 (by decide) ?_
  refine pw_sub (lv1 := [(0, .ref v0), (1, .int v1), (2, .int (v2 + 1))]) [1, 2, 0] rfl ?_
  exact hrec26 F18 v0 v1 ((v2 + 1)) h
def g_X7_drawn_b26 : Nat → Hp → Nat → Int32 → Int32 → Option (Int32 × Hp)
  | 0, _, _, _, _ => none
  | n + 1, F, v0, v1, v2 => (if v1 ≤ v2 then ((gR F v0 7 3).bind fun q9 => ((gI F q9 1 11).bind fun x10 => ((gR F v0 7 2).bind fun q11 => ((gI F q11 1 11).bind fun x12 => some ((x10 - x12), F))))) else ((gL F v0 7 8).bind fun x13 => ((pV F v0 7 8 (.long ((x13 * (6364136223846793005 : Int64)) + (1442695040888963407 : Int64)))).bind fun F14 => ((gL F14 v0 7 8).bind fun x15 => (if (jrem ((Int64.toInt32 (jlushr x15 33)) / 2) 4) = 0 then ((gR F14 v0 7 3).bind fun q20 => (ckO F14 q20 1 (bnd2 (g_X1_receive F14 q20 (jrem (Int64.toInt32 (jlushr x15 33)) 2) 0) fun x22 F21 => g_X7_drawn_b76 (g_X7_drawn_b26 n) F21 v0 v1 v2))) else g_X7_drawn_b76 (g_X7_drawn_b26 n) F14 v0 v1 v2)))))
set_option maxHeartbeats 4000000 in
theorem bl_X7_drawn_b26 {X : Cx} {rx : Int32} {F' : Hp} (hX : Md X cX7_drawn RX7 4 (rmd 3) (some FieldType.int) false (some (.int rx)) F') : ∀ (n : Nat) (F : Hp) (v0 : Nat) (v1 : Int32) (v2 : Int32), g_X7_drawn_b26 n F v0 v1 v2 = some (rx, F') → PW X 0 0 F 26 [(0, .ref v0), (1, .int v1), (2, .int v2)] [] := by
  have hO := hX.1
  intro n
  induction n with
  | zero => intro F v0 v1 v2 h; rw [g_X7_drawn_b26] at h; cases h
  | succ n ih =>
    intro F v0 v1 v2 h
    rw [g_X7_drawn_b26] at h
    refine pw_iload_n hO dX7_drawn_26 2 rfl ?_
    refine pw_iload_n hO dX7_drawn_27 1 rfl ?_
    refine pw_icmp_ge (tgt := 89) hO dX7_drawn_28 (by decide) h (fun c8 h => ?_) (fun c8 h => ?_)
    · refine pw_aload_n hO dX7_drawn_89 0 rfl ?_
      refine pw_getR hO dX7_drawn_90 fl_X7_30 h (fun q9 h => ?_)
      refine pw_getI hO dX7_drawn_93 fl_X7_177 h (fun x10 h => ?_)
      refine pw_aload_n hO dX7_drawn_96 0 rfl ?_
      refine pw_getR hO dX7_drawn_97 fl_X7_26 h (fun q11 h => ?_)
      refine pw_getI hO dX7_drawn_100 fl_X7_177 h (fun x12 h => ?_)
      refine pw_isub hO dX7_drawn_103 ?_
      exact pw_iret hO hX.2 dX7_drawn_104 h
    · refine pw_aload_n hO dX7_drawn_31 0 rfl ?_
      refine pw_aload_n hO dX7_drawn_32 0 rfl ?_
      refine pw_getL hO dX7_drawn_33 fl_X7_57 h (fun x13 h => ?_)
      refine pw_ldc2 hO dX7_drawn_36 kl_X7_213 ?_
      refine pw_lmul hO dX7_drawn_39 ?_
      refine pw_ldc2 hO dX7_drawn_40 kl_X7_215 ?_
      refine pw_ladd hO dX7_drawn_43 ?_
      refine pw_putL hO dX7_drawn_44 fp_X7_57 h (fun F14 h => ?_)
      refine pw_aload_n hO dX7_drawn_47 0 rfl ?_
      refine pw_getL hO dX7_drawn_48 fl_X7_57 h (fun x15 h => ?_)
      refine pw_bipush hO dX7_drawn_51 (v := 33) (by decide) ?_
      refine pw_lushr hO dX7_drawn_53 ?_
      refine pw_l2i hO dX7_drawn_54 ?_
      refine pw_istore_n hO [(3, .int (Int64.toInt32 (jlushr x15 33))), (0, .ref v0), (1, .int v1), (2, .int v2)] dX7_drawn_55 (by decide) rfl ?_
      refine pw_iload_n hO dX7_drawn_56 0 rfl ?_
      refine pw_iconst hO dX7_drawn_57 (v := 2) (by decide) ?_
      refine pw_idivc hO dX7_drawn_58 (by decide) ?_
      refine pw_iconst hO dX7_drawn_59 (v := 4) (by decide) ?_
      refine pw_iremc hO dX7_drawn_60 (by decide) ?_
      refine pw_if_ne (tgt := 76) hO dX7_drawn_61 (by decide) h (fun c16 h => ?_) (fun c16 h => ?_)
      · refine pw_sub (lv1 := [(0, .ref v0), (1, .int v1), (2, .int v2)]) [1, 2, 3] rfl ?_
        exact bl_X7_drawn_b76 hX (g_X7_drawn_b26 n) ih F14 v0 v1 v2 h
      · refine pw_aload_n hO dX7_drawn_64 1 rfl ?_
        refine pw_getR hO dX7_drawn_65 fl_X7_30 h (fun q20 h => ?_)
        refine pw_iload_n hO dX7_drawn_68 0 rfl ?_
        refine pw_iconst hO dX7_drawn_69 (v := 2) (by decide) ?_
        refine pw_iremc hO dX7_drawn_70 (by decide) ?_
        refine pw_iconst hO dX7_drawn_71 (v := 0) (by decide) ?_
        refine pw_VI (a := q20) (ci := 1) (as := [.int (jrem (Int64.toInt32 (jlushr x15 33)) 2), .int 0]) (st := []) (d := 1) hO [.int 0, .int (jrem (Int64.toInt32 (jlushr x15 33)) 2), .ref q20] dX7_drawn_72 vl_X7_146 h (fun r F1 hg n => ct_X1_receive hg) ⟨Nat.le_of_ble_eq_true rfl, Nat.le_of_ble_eq_true rfl⟩ ⟨Nat.zero_le _, Nat.zero_le _⟩ (Nat.le_of_ble_eq_true rfl) (fun _ _ => rfl) rfl (fun x22 F21 h => ?_)
        refine pw_pop hO dX7_drawn_75 rfl ?_
        refine pw_sub (lv1 := [(0, .ref v0), (1, .int v1), (2, .int v2)]) [1, 2, 3] rfl ?_
        exact bl_X7_drawn_b76 hX (g_X7_drawn_b26 n) ih F21 v0 v1 v2 h
def g_X7_drawn (F : Hp) (a0 : Nat) (a1 : Int32) : Option (Int32 × Hp) := (bnd2 (g_X7_isWithin F a1 1 60) fun x2 F1 => (if x2 = 0 then some ((-2), F1) else ((gR F1 a0 7 3).bind fun q4 => ((gR F1 a0 7 2).bind fun q5 => (ckO F1 q4 1 ((g_X1_become F1 q4 q5).bind fun F6 => g_X7_drawn_b26 gF F6 a0 a1 0))))))
set_option maxHeartbeats 4000000 in
theorem bl_X7_drawn {X : Cx} {rx : Int32} {F' : Hp} (hX : Md X cX7_drawn RX7 4 (rmd 3) (some FieldType.int) false (some (.int rx)) F') (F : Hp) (a0 : Nat) (a1 : Int32) (h : g_X7_drawn F a0 a1 = some (rx, F')) : PW X 0 0 F 0 [(0, .ref a0), (1, .int a1)] [] := by
  have hO := hX.1
  unfold g_X7_drawn at h
  refine pw_iload_n hO dX7_drawn_0 1 rfl ?_
  refine pw_iconst hO dX7_drawn_1 (v := 1) (by decide) ?_
  refine pw_bipush hO dX7_drawn_2 (v := 60) (by decide) ?_
  refine pw_SI (as := [.int a1, .int 1, .int 60]) (st := []) (d := 0) hO [.int 60, .int 1, .int a1] dX7_drawn_4 sl_X7_61 h (fun r F1 hg n => ct_X7_isWithin hg) ⟨Nat.le_of_ble_eq_true rfl, Nat.le_of_ble_eq_true rfl⟩ ⟨Nat.zero_le _, Nat.zero_le _⟩ (Nat.le_of_ble_eq_true rfl) (fun _ _ => rfl) rfl (fun x2 F1 h => ?_)
  refine pw_if_ne (tgt := 13) hO dX7_drawn_7 (by decide) h (fun c3 h => ?_) (fun c3 h => ?_)
  · refine pw_aload_n hO dX7_drawn_13 0 rfl ?_
    refine pw_getR hO dX7_drawn_14 fl_X7_30 h (fun q4 h => ?_)
    refine pw_aload_n hO dX7_drawn_17 0 rfl ?_
    refine pw_getR hO dX7_drawn_18 fl_X7_26 h (fun q5 h => ?_)
    refine pw_V0 (a := q4) (ci := 1) (as := [.ref q5]) (st := []) (d := 1) hO [.ref q5, .ref q4] dX7_drawn_21 vl_X7_84 h (fun F1 hg n => ct_X1_become hg) ⟨Nat.le_of_ble_eq_true rfl, Nat.le_of_ble_eq_true rfl⟩ ⟨Nat.zero_le _, Nat.zero_le _⟩ (Nat.le_of_ble_eq_true rfl) (fun _ _ => rfl) rfl (fun F6 h => ?_)
    refine pw_iconst hO dX7_drawn_24 (v := 0) (by decide) ?_
    refine pw_istore_n hO [(2, .int 0), (0, .ref a0), (1, .int a1)] dX7_drawn_25 (by decide) rfl ?_
    refine pw_sub (lv1 := [(0, .ref a0), (1, .int a1), (2, .int 0)]) [1, 2, 0] rfl ?_
    exact bl_X7_drawn_b26 hX gF F6 a0 a1 0 h
  · refine pw_bipush hO dX7_drawn_10 (v := (-2)) (by decide) ?_
    exact pw_iret hO hX.2 dX7_drawn_12 h
theorem ct_X7_drawn {n : Nat} {F : Hp} {a0 : Nat} {a1 : Int32} {rx : Int32} {F' : Hp} (h : g_X7_drawn F a0 a1 = some (rx, F')) : CT yX7_drawn cX7_drawn 4 (some FieldType.int) (rmd 3) n F [.ref a0, .int a1] (some (.int rx)) F' :=
  ct_intro (own := RX7) (nm := false) (by decide) rfl (fun h => by cases h) (Nat.le_of_ble_eq_true rfl) (fun X hn hX => bl_X7_drawn hX F a0 a1 h)
def g_X7_slotOf (F : Hp) (a0 : Nat) (a1 : Int32) : Option (Nat × Hp) := (if a1 = 0 then ((gR F a0 7 6).bind fun q3 => some (q3, F)) else ((gR F a0 7 7).bind fun q2 => some (q2, F)))
set_option maxHeartbeats 4000000 in
theorem bl_X7_slotOf {X : Cx} {rx : Nat} {F' : Hp} (hX : Md X cX7_slotOf RX7 2 (rmd 0) (some (FieldType.object "DozeLink$Slot")) false (some (.ref rx)) F') (F : Hp) (a0 : Nat) (a1 : Int32) (h : g_X7_slotOf F a0 a1 = some (rx, F')) : PW X 0 0 F 0 [(0, .ref a0), (1, .int a1)] [] := by
  have hO := hX.1
  unfold g_X7_slotOf at h
  refine pw_iload_n hO dX7_slotOf_0 1 rfl ?_
  refine pw_if_ne (tgt := 11) hO dX7_slotOf_1 (by decide) h (fun c1 h => ?_) (fun c1 h => ?_)
  · refine pw_aload_n hO dX7_slotOf_11 0 rfl ?_
    refine pw_getR hO dX7_slotOf_12 fl_X7_54 h (fun q2 h => ?_)
    exact pw_aret hO hX.2 dX7_slotOf_15 h
  · refine pw_aload_n hO dX7_slotOf_4 0 rfl ?_
    refine pw_getR hO dX7_slotOf_5 fl_X7_50 h (fun q3 h => ?_)
    refine pw_goto (tgt := 15) hO dX7_slotOf_8 (by decide) ?_
    exact pw_aret hO hX.2 dX7_slotOf_15 h
theorem ct_X7_slotOf {n : Nat} {F : Hp} {a0 : Nat} {a1 : Int32} {rx : Nat} {F' : Hp} (h : g_X7_slotOf F a0 a1 = some (rx, F')) : CT yX7_slotOf cX7_slotOf 2 (some (FieldType.object "DozeLink$Slot")) (rmd 0) n F [.ref a0, .int a1] (some (.ref rx)) F' :=
  ct_intro (own := RX7) (nm := false) (by decide) rfl (fun h => by cases h) (Nat.le_of_ble_eq_true rfl) (fun X hn hX => bl_X7_slotOf hX F a0 a1 h)
def g_X7_keep (F : Hp) (a0 : Nat) (a1 : Int32) : Option (Int32 × Hp) := (bnd2 (g_X7_isSlot F a1) fun x2 F1 => (if x2 = 0 then some ((-1), F1) else (ckO F1 a0 7 (bnd2 (g_X7_slotOf F1 a0 a1) fun q5 F4 => ((gR F4 q5 5 0).bind fun q6 => ((gR F4 a0 7 2).bind fun q7 => (ckO F4 q6 1 ((g_X1_become F4 q6 q7).bind fun F8 => ((pZ F8 q5 5 1 1).bind fun F10 => ((gR F10 a0 7 2).bind fun q11 => ((gI F10 q11 1 8).bind fun x12 => some (x12, F10))))))))))))
set_option maxHeartbeats 4000000 in
theorem bl_X7_keep {X : Cx} {rx : Int32} {F' : Hp} (hX : Md X cX7_keep RX7 3 (rmd 2) (some FieldType.int) false (some (.int rx)) F') (F : Hp) (a0 : Nat) (a1 : Int32) (h : g_X7_keep F a0 a1 = some (rx, F')) : PW X 0 0 F 0 [(0, .ref a0), (1, .int a1)] [] := by
  have hO := hX.1
  unfold g_X7_keep at h
  refine pw_iload_n hO dX7_keep_0 1 rfl ?_
  refine pw_SI (as := [.int a1]) (st := []) (d := 0) hO [.int a1] dX7_keep_1 sl_X7_220 h (fun r F1 hg n => ct_X7_isSlot hg) ⟨Nat.le_of_ble_eq_true rfl, Nat.le_of_ble_eq_true rfl⟩ ⟨Nat.zero_le _, Nat.zero_le _⟩ (Nat.le_of_ble_eq_true rfl) (fun _ _ => rfl) rfl (fun x2 F1 h => ?_)
  refine pw_if_ne (tgt := 9) hO dX7_keep_4 (by decide) h (fun c3 h => ?_) (fun c3 h => ?_)
  · refine pw_aload_n hO dX7_keep_9 0 rfl ?_
    refine pw_iload_n hO dX7_keep_10 1 rfl ?_
    refine pw_VR (a := a0) (ci := 7) (as := [.int a1]) (st := []) (d := 0) hO [.int a1, .ref a0] dX7_keep_11 vl_X7_223 h (fun r F1 hg n => ct_X7_slotOf hg) ⟨Nat.le_of_ble_eq_true rfl, Nat.le_of_ble_eq_true rfl⟩ ⟨Nat.zero_le _, Nat.zero_le _⟩ (Nat.le_of_ble_eq_true rfl) (fun _ _ => rfl) rfl (fun q5 F4 h => ?_)
    refine pw_astore_n hO [(2, .ref q5), (0, .ref a0), (1, .int a1)] dX7_keep_14 (by decide) rfl ?_
    refine pw_aload_n hO dX7_keep_15 0 rfl ?_
    refine pw_getR hO dX7_keep_16 fl_X7_227 h (fun q6 h => ?_)
    refine pw_aload_n hO dX7_keep_19 1 rfl ?_
    refine pw_getR hO dX7_keep_20 fl_X7_26 h (fun q7 h => ?_)
    refine pw_V0 (a := q6) (ci := 1) (as := [.ref q7]) (st := []) (d := 1) hO [.ref q7, .ref q6] dX7_keep_23 vl_X7_84 h (fun F1 hg n => ct_X1_become hg) ⟨Nat.le_of_ble_eq_true rfl, Nat.le_of_ble_eq_true rfl⟩ ⟨Nat.zero_le _, Nat.zero_le _⟩ (Nat.le_of_ble_eq_true rfl) (fun _ _ => rfl) rfl (fun F8 h => ?_)
    refine pw_aload_n hO dX7_keep_26 0 rfl ?_
    refine pw_iconst hO dX7_keep_27 (v := 1) (by decide) ?_
    refine pw_putZ hO dX7_keep_28 fp_X7_92 h (fun F10 h => ?_)
    refine pw_aload_n hO dX7_keep_31 1 rfl ?_
    refine pw_getR hO dX7_keep_32 fl_X7_26 h (fun q11 h => ?_)
    refine pw_getI hO dX7_keep_35 fl_X7_96 h (fun x12 h => ?_)
    exact pw_iret hO hX.2 dX7_keep_38 h
  · refine pw_iconst hO dX7_keep_7 (v := (-1)) (by decide) ?_
    exact pw_iret hO hX.2 dX7_keep_8 h
theorem ct_X7_keep {n : Nat} {F : Hp} {a0 : Nat} {a1 : Int32} {rx : Int32} {F' : Hp} (h : g_X7_keep F a0 a1 = some (rx, F')) : CT yX7_keep cX7_keep 3 (some FieldType.int) (rmd 2) n F [.ref a0, .int a1] (some (.int rx)) F' :=
  ct_intro (own := RX7) (nm := false) (by decide) rfl (fun h => by cases h) (Nat.le_of_ble_eq_true rfl) (fun X hn hX => bl_X7_keep hX F a0 a1 h)
def g_X7_again (F : Hp) (a0 : Nat) (a1 : Int32) : Option (Int32 × Hp) := (bnd2 (g_X7_isSlot F a1) fun x2 F1 => (if x2 = 0 then some ((-1), F1) else (ckO F1 a0 7 (bnd2 (g_X7_slotOf F1 a0 a1) fun q5 F4 => ((gI F4 q5 5 1).bind fun x6 => (if x6 = 0 then some ((-3), F4) else ((gR F4 a0 7 2).bind fun q8 => ((gR F4 q5 5 0).bind fun q9 => (ckO F4 q8 1 ((g_X1_become F4 q8 q9).bind fun F10 => ((gR F10 a0 7 4).bind fun q12 => ((pV F10 q12 0 1 (.int 0)).bind fun F13 => ((gR F13 a0 7 2).bind fun q14 => ((gI F13 q14 1 8).bind fun x15 => some (x15, F13)))))))))))))))
set_option maxHeartbeats 4000000 in
theorem bl_X7_again {X : Cx} {rx : Int32} {F' : Hp} (hX : Md X cX7_again RX7 3 (rmd 2) (some FieldType.int) false (some (.int rx)) F') (F : Hp) (a0 : Nat) (a1 : Int32) (h : g_X7_again F a0 a1 = some (rx, F')) : PW X 0 0 F 0 [(0, .ref a0), (1, .int a1)] [] := by
  have hO := hX.1
  unfold g_X7_again at h
  refine pw_iload_n hO dX7_again_0 1 rfl ?_
  refine pw_SI (as := [.int a1]) (st := []) (d := 0) hO [.int a1] dX7_again_1 sl_X7_220 h (fun r F1 hg n => ct_X7_isSlot hg) ⟨Nat.le_of_ble_eq_true rfl, Nat.le_of_ble_eq_true rfl⟩ ⟨Nat.zero_le _, Nat.zero_le _⟩ (Nat.le_of_ble_eq_true rfl) (fun _ _ => rfl) rfl (fun x2 F1 h => ?_)
  refine pw_if_ne (tgt := 9) hO dX7_again_4 (by decide) h (fun c3 h => ?_) (fun c3 h => ?_)
  · refine pw_aload_n hO dX7_again_9 0 rfl ?_
    refine pw_iload_n hO dX7_again_10 1 rfl ?_
    refine pw_VR (a := a0) (ci := 7) (as := [.int a1]) (st := []) (d := 0) hO [.int a1, .ref a0] dX7_again_11 vl_X7_223 h (fun r F1 hg n => ct_X7_slotOf hg) ⟨Nat.le_of_ble_eq_true rfl, Nat.le_of_ble_eq_true rfl⟩ ⟨Nat.zero_le _, Nat.zero_le _⟩ (Nat.le_of_ble_eq_true rfl) (fun _ _ => rfl) rfl (fun q5 F4 h => ?_)
    refine pw_astore_n hO [(2, .ref q5), (0, .ref a0), (1, .int a1)] dX7_again_14 (by decide) rfl ?_
    refine pw_aload_n hO dX7_again_15 0 rfl ?_
    refine pw_getI hO dX7_again_16 fl_X7_92 h (fun x6 h => ?_)
    refine pw_if_ne (tgt := 25) hO dX7_again_19 (by decide) h (fun c7 h => ?_) (fun c7 h => ?_)
    · refine pw_aload_n hO dX7_again_25 1 rfl ?_
      refine pw_getR hO dX7_again_26 fl_X7_26 h (fun q8 h => ?_)
      refine pw_aload_n hO dX7_again_29 0 rfl ?_
      refine pw_getR hO dX7_again_30 fl_X7_227 h (fun q9 h => ?_)
      refine pw_V0 (a := q8) (ci := 1) (as := [.ref q9]) (st := []) (d := 1) hO [.ref q9, .ref q8] dX7_again_33 vl_X7_84 h (fun F1 hg n => ct_X1_become hg) ⟨Nat.le_of_ble_eq_true rfl, Nat.le_of_ble_eq_true rfl⟩ ⟨Nat.zero_le _, Nat.zero_le _⟩ (Nat.le_of_ble_eq_true rfl) (fun _ _ => rfl) rfl (fun F10 h => ?_)
      refine pw_aload_n hO dX7_again_36 1 rfl ?_
      refine pw_getR hO dX7_again_37 fl_X7_36 h (fun q12 h => ?_)
      refine pw_iconst hO dX7_again_40 (v := 0) (by decide) ?_
      refine pw_putI hO dX7_again_41 fp_X7_91 h (fun F13 h => ?_)
      refine pw_aload_n hO dX7_again_44 1 rfl ?_
      refine pw_getR hO dX7_again_45 fl_X7_26 h (fun q14 h => ?_)
      refine pw_getI hO dX7_again_48 fl_X7_96 h (fun x15 h => ?_)
      exact pw_iret hO hX.2 dX7_again_51 h
    · refine pw_bipush hO dX7_again_22 (v := (-3)) (by decide) ?_
      exact pw_iret hO hX.2 dX7_again_24 h
  · refine pw_iconst hO dX7_again_7 (v := (-1)) (by decide) ?_
    exact pw_iret hO hX.2 dX7_again_8 h
theorem ct_X7_again {n : Nat} {F : Hp} {a0 : Nat} {a1 : Int32} {rx : Int32} {F' : Hp} (h : g_X7_again F a0 a1 = some (rx, F')) : CT yX7_again cX7_again 3 (some FieldType.int) (rmd 2) n F [.ref a0, .int a1] (some (.int rx)) F' :=
  ct_intro (own := RX7) (nm := false) (by decide) rfl (fun h => by cases h) (Nat.le_of_ble_eq_true rfl) (fun X hn hX => bl_X7_again hX F a0 a1 h)
def g_X7_count (F : Hp) (a0 : Nat) (a1 : Int32) : Option (Int32 × Hp) := (if a1 = 0 then ((gR F a0 7 0).bind fun q2 => ((gI F q2 6 1).bind fun x3 => some (x3, F))) else (if a1 = 1 then ((gR F a0 7 2).bind fun q5 => ((gI F q5 1 3).bind fun x6 => some (x6, F))) else (if a1 = 2 then ((gR F a0 7 2).bind fun q8 => ((gI F q8 1 4).bind fun x9 => some (x9, F))) else (if a1 = 3 then ((gR F a0 7 1).bind fun q11 => ((gI F q11 2 2).bind fun x12 => some (x12, F))) else (if a1 = 4 then ((gR F a0 7 4).bind fun q14 => ((gI F q14 0 1).bind fun x15 => some (x15, F))) else (if a1 = 5 then ((gR F a0 7 5).bind fun q17 => ((gI F q17 4 2).bind fun x18 => some (x18, F))) else some ((-2), F)))))))
set_option maxHeartbeats 4000000 in
theorem bl_X7_count {X : Cx} {rx : Int32} {F' : Hp} (hX : Md X cX7_count RX7 2 (rmd 0) (some FieldType.int) false (some (.int rx)) F') (F : Hp) (a0 : Nat) (a1 : Int32) (h : g_X7_count F a0 a1 = some (rx, F')) : PW X 0 0 F 0 [(0, .ref a0), (1, .int a1)] [] := by
  have hO := hX.1
  unfold g_X7_count at h
  refine pw_iload_n hO dX7_count_0 1 rfl ?_
  refine pw_sw h (fun c1 h => ?_) (fun c1 h => ?_)
  · refine pw_tin (tgt := 40) hO dX7_count_1 c1 (by decide) (by decide) (by rfl) (by decide) ?_
    refine pw_aload_n hO dX7_count_40 0 rfl ?_
    refine pw_getR hO dX7_count_41 fl_X7_10 h (fun q2 h => ?_)
    refine pw_getI hO dX7_count_44 fl_X7_69 h (fun x3 h => ?_)
    exact pw_iret hO hX.2 dX7_count_47 h
  refine pw_sw h (fun c4 h => ?_) (fun c4 h => ?_)
  · refine pw_tin (tgt := 48) hO dX7_count_1 c4 (by decide) (by decide) (by rfl) (by decide) ?_
    refine pw_aload_n hO dX7_count_48 0 rfl ?_
    refine pw_getR hO dX7_count_49 fl_X7_26 h (fun q5 h => ?_)
    refine pw_getI hO dX7_count_52 fl_X7_230 h (fun x6 h => ?_)
    exact pw_iret hO hX.2 dX7_count_55 h
  refine pw_sw h (fun c7 h => ?_) (fun c7 h => ?_)
  · refine pw_tin (tgt := 56) hO dX7_count_1 c7 (by decide) (by decide) (by rfl) (by decide) ?_
    refine pw_aload_n hO dX7_count_56 0 rfl ?_
    refine pw_getR hO dX7_count_57 fl_X7_26 h (fun q8 h => ?_)
    refine pw_getI hO dX7_count_60 fl_X7_233 h (fun x9 h => ?_)
    exact pw_iret hO hX.2 dX7_count_63 h
  refine pw_sw h (fun c10 h => ?_) (fun c10 h => ?_)
  · refine pw_tin (tgt := 64) hO dX7_count_1 c10 (by decide) (by decide) (by rfl) (by decide) ?_
    refine pw_aload_n hO dX7_count_64 0 rfl ?_
    refine pw_getR hO dX7_count_65 fl_X7_19 h (fun q11 h => ?_)
    refine pw_getI hO dX7_count_68 fl_X7_236 h (fun x12 h => ?_)
    exact pw_iret hO hX.2 dX7_count_71 h
  refine pw_sw h (fun c13 h => ?_) (fun c13 h => ?_)
  · refine pw_tin (tgt := 72) hO dX7_count_1 c13 (by decide) (by decide) (by rfl) (by decide) ?_
    refine pw_aload_n hO dX7_count_72 0 rfl ?_
    refine pw_getR hO dX7_count_73 fl_X7_36 h (fun q14 h => ?_)
    refine pw_getI hO dX7_count_76 fl_X7_91 h (fun x15 h => ?_)
    exact pw_iret hO hX.2 dX7_count_79 h
  refine pw_sw h (fun c16 h => ?_) (fun c16 h => ?_)
  · refine pw_tin (tgt := 80) hO dX7_count_1 c16 (by decide) (by decide) (by rfl) (by decide) ?_
    refine pw_aload_n hO dX7_count_80 0 rfl ?_
    refine pw_getR hO dX7_count_81 fl_X7_43 h (fun q17 h => ?_)
    refine pw_getI hO dX7_count_84 fl_X7_190 h (fun x18 h => ?_)
    exact pw_iret hO hX.2 dX7_count_87 h
  refine pw_tout (tgt := 88) hO dX7_count_1 (by have e0 := lv_neT (a := 0) c1 (by decide); have e1 := lv_neT (a := 1) c4 (by decide); have e2 := lv_neT (a := 2) c7 (by decide); have e3 := lv_neT (a := 3) c10 (by decide); have e4 := lv_neT (a := 4) c13 (by decide); have e5 := lv_neT (a := 5) c16 (by decide); omega) (by decide) ?_
  refine pw_bipush hO dX7_count_88 (v := (-2)) (by decide) ?_
  exact pw_iret hO hX.2 dX7_count_90 h
theorem ct_X7_count {n : Nat} {F : Hp} {a0 : Nat} {a1 : Int32} {rx : Int32} {F' : Hp} (h : g_X7_count F a0 a1 = some (rx, F')) : CT yX7_count cX7_count 2 (some FieldType.int) (rmd 0) n F [.ref a0, .int a1] (some (.int rx)) F' :=
  ct_intro (own := RX7) (nm := false) (by decide) rfl (fun h => by cases h) (Nat.le_of_ble_eq_true rfl) (fun X hn hX => bl_X7_count hX F a0 a1 h)
