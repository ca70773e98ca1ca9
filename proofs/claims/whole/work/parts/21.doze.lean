def g_X1_become (F : Hp) (a0 : Nat) (a1 : Nat) : Option Hp := ((gR F a0 1 0).bind fun q1 => ((gR F a1 1 0).bind fun q2 => (ckO F q1 3 ((g_X3_become F q1 q2).bind fun F3 => ((gR F3 a0 1 1).bind fun q5 => ((gR F3 a1 1 1).bind fun q6 => (ckO F3 q5 3 ((g_X3_become F3 q5 q6).bind fun F7 => ((gI F7 a1 1 2).bind fun x9 => ((pZ F7 a0 1 2 x9).bind fun F10 => ((gI F10 a1 1 3).bind fun x11 => ((pV F10 a0 1 3 (.int x11)).bind fun F12 => ((gI F12 a1 1 4).bind fun x13 => ((pV F12 a0 1 4 (.int x13)).bind fun F14 => ((gI F14 a1 1 5).bind fun x15 => ((pV F14 a0 1 5 (.int x15)).bind fun F16 => ((gI F16 a1 1 6).bind fun x17 => ((pV F16 a0 1 6 (.int x17)).bind fun F18 => ((gI F18 a1 1 7).bind fun x19 => ((pV F18 a0 1 7 (.int x19)).bind fun F20 => ((gI F20 a1 1 8).bind fun x21 => ((pV F20 a0 1 8 (.int x21)).bind fun F22 => ((gI F22 a1 1 9).bind fun x23 => ((pV F22 a0 1 9 (.int x23)).bind fun F24 => ((gI F24 a1 1 10).bind fun x25 => ((pV F24 a0 1 10 (.int x25)).bind fun F26 => ((gI F26 a1 1 11).bind fun x27 => ((pV F26 a0 1 11 (.int x27)).bind fun F28 => ((gI F28 a1 1 12).bind fun x29 => ((pV F28 a0 1 12 (.int x29)).bind fun F30 => ((gI F30 a1 1 13).bind fun x31 => ((pV F30 a0 1 13 (.int x31)).bind fun F32 => some F32))))))))))))))))))))))))))))))))
set_option maxHeartbeats 4000000 in
theorem bl_X1_become {X : Cx} {F' : Hp} (hX : Md X cX1_become RX1 2 (rmd 1) none false none F') (F : Hp) (a0 : Nat) (a1 : Nat) (h : g_X1_become F a0 a1 = some F') : PW X 0 0 F 0 [(0, .ref a0), (1, .ref a1)] [] := by
  have hO := hX.1
  unfold g_X1_become at h
  refine pw_aload_n hO dX1_become_0 0 rfl ?_
  refine pw_getR hO dX1_become_1 fl_X1_12 h (fun q1 h => ?_)
  refine pw_aload_n hO dX1_become_4 1 rfl ?_
  refine pw_getR hO dX1_become_5 fl_X1_12 h (fun q2 h => ?_)
  refine pw_V0 (a := q1) (ci := 3) (as := [.ref q2]) (st := []) (d := 0) hO [.ref q2, .ref q1] dX1_become_8 vl_X1_59 h (fun F1 hg n => ct_X3_become hg) ⟨Nat.le_of_ble_eq_true rfl, Nat.le_of_ble_eq_true rfl⟩ ⟨Nat.zero_le _, Nat.zero_le _⟩ (Nat.le_of_ble_eq_true rfl) (fun _ _ => rfl) rfl (fun F3 h => ?_)
  refine pw_aload_n hO dX1_become_11 0 rfl ?_
  refine pw_getR hO dX1_become_12 fl_X1_18 h (fun q5 h => ?_)
  refine pw_aload_n hO dX1_become_15 1 rfl ?_
  refine pw_getR hO dX1_become_16 fl_X1_18 h (fun q6 h => ?_)
  refine pw_V0 (a := q5) (ci := 3) (as := [.ref q6]) (st := []) (d := 0) hO [.ref q6, .ref q5] dX1_become_19 vl_X1_59 h (fun F1 hg n => ct_X3_become hg) ⟨Nat.le_of_ble_eq_true rfl, Nat.le_of_ble_eq_true rfl⟩ ⟨Nat.zero_le _, Nat.zero_le _⟩ (Nat.le_of_ble_eq_true rfl) (fun _ _ => rfl) rfl (fun F7 h => ?_)
  refine pw_aload_n hO dX1_become_22 0 rfl ?_
  refine pw_aload_n hO dX1_become_23 1 rfl ?_
  refine pw_getI hO dX1_become_24 fl_X1_21 h (fun x9 h => ?_)
  refine pw_putZ hO dX1_become_27 fp_X1_21 h (fun F10 h => ?_)
  refine pw_aload_n hO dX1_become_30 0 rfl ?_
  refine pw_aload_n hO dX1_become_31 1 rfl ?_
  refine pw_getI hO dX1_become_32 fl_X1_25 h (fun x11 h => ?_)
  refine pw_putI hO dX1_become_35 fp_X1_25 h (fun F12 h => ?_)
  refine pw_aload_n hO dX1_become_38 0 rfl ?_
  refine pw_aload_n hO dX1_become_39 1 rfl ?_
  refine pw_getI hO dX1_become_40 fl_X1_29 h (fun x13 h => ?_)
  refine pw_putI hO dX1_become_43 fp_X1_29 h (fun F14 h => ?_)
  refine pw_aload_n hO dX1_become_46 0 rfl ?_
  refine pw_aload_n hO dX1_become_47 1 rfl ?_
  refine pw_getI hO dX1_become_48 fl_X1_32 h (fun x15 h => ?_)
  refine pw_putI hO dX1_become_51 fp_X1_32 h (fun F16 h => ?_)
  refine pw_aload_n hO dX1_become_54 0 rfl ?_
  refine pw_aload_n hO dX1_become_55 1 rfl ?_
  refine pw_getI hO dX1_become_56 fl_X1_35 h (fun x17 h => ?_)
  refine pw_putI hO dX1_become_59 fp_X1_35 h (fun F18 h => ?_)
  refine pw_aload_n hO dX1_become_62 0 rfl ?_
  refine pw_aload_n hO dX1_become_63 1 rfl ?_
  refine pw_getI hO dX1_become_64 fl_X1_38 h (fun x19 h => ?_)
  refine pw_putI hO dX1_become_67 fp_X1_38 h (fun F20 h => ?_)
  refine pw_aload_n hO dX1_become_70 0 rfl ?_
  refine pw_aload_n hO dX1_become_71 1 rfl ?_
  refine pw_getI hO dX1_become_72 fl_X1_41 h (fun x21 h => ?_)
  refine pw_putI hO dX1_become_75 fp_X1_41 h (fun F22 h => ?_)
  refine pw_aload_n hO dX1_become_78 0 rfl ?_
  refine pw_aload_n hO dX1_become_79 1 rfl ?_
  refine pw_getI hO dX1_become_80 fl_X1_44 h (fun x23 h => ?_)
  refine pw_putI hO dX1_become_83 fp_X1_44 h (fun F24 h => ?_)
  refine pw_aload_n hO dX1_become_86 0 rfl ?_
  refine pw_aload_n hO dX1_become_87 1 rfl ?_
  refine pw_getI hO dX1_become_88 fl_X1_47 h (fun x25 h => ?_)
  refine pw_putI hO dX1_become_91 fp_X1_47 h (fun F26 h => ?_)
  refine pw_aload_n hO dX1_become_94 0 rfl ?_
  refine pw_aload_n hO dX1_become_95 1 rfl ?_
  refine pw_getI hO dX1_become_96 fl_X1_50 h (fun x27 h => ?_)
  refine pw_putI hO dX1_become_99 fp_X1_50 h (fun F28 h => ?_)
  refine pw_aload_n hO dX1_become_102 0 rfl ?_
  refine pw_aload_n hO dX1_become_103 1 rfl ?_
  refine pw_getI hO dX1_become_104 fl_X1_53 h (fun x29 h => ?_)
  refine pw_putI hO dX1_become_107 fp_X1_53 h (fun F30 h => ?_)
  refine pw_aload_n hO dX1_become_110 0 rfl ?_
  refine pw_aload_n hO dX1_become_111 1 rfl ?_
  refine pw_getI hO dX1_become_112 fl_X1_56 h (fun x31 h => ?_)
  refine pw_putI hO dX1_become_115 fp_X1_56 h (fun F32 h => ?_)
  exact pw_vret hO hX.2 dX1_become_118 h
theorem ct_X1_become {n : Nat} {F : Hp} {a0 : Nat} {a1 : Nat} {F' : Hp} (h : g_X1_become F a0 a1 = some F') : CT yX1_become cX1_become 2 none (rmd 1) n F [.ref a0, .ref a1] none F' :=
  ct_intro (own := RX1) (nm := false) (by decide) rfl (fun h => by cases h) (Nat.le_of_ble_eq_true rfl) (fun X hn hX => bl_X1_become hX F a0 a1 h)
def g_X1_side (F : Hp) (a0 : Nat) (a1 : Int32) : Option (Nat × Hp) := (if a1 = 0 then ((gR F a0 1 0).bind fun q3 => some (q3, F)) else ((gR F a0 1 1).bind fun q2 => some (q2, F)))
set_option maxHeartbeats 4000000 in
theorem bl_X1_side {X : Cx} {rx : Nat} {F' : Hp} (hX : Md X cX1_side RX1 2 (rmd 0) (some (FieldType.object "DozeLink$Side")) false (some (.ref rx)) F') (F : Hp) (a0 : Nat) (a1 : Int32) (h : g_X1_side F a0 a1 = some (rx, F')) : PW X 0 0 F 0 [(0, .ref a0), (1, .int a1)] [] := by
  have hO := hX.1
  unfold g_X1_side at h
  refine pw_iload_n hO dX1_side_0 1 rfl ?_
  refine pw_if_ne (tgt := 11) hO dX1_side_1 (by decide) h (fun c1 h => ?_) (fun c1 h => ?_)
  · refine pw_aload_n hO dX1_side_11 0 rfl ?_
    refine pw_getR hO dX1_side_12 fl_X1_18 h (fun q2 h => ?_)
    exact pw_aret hO hX.2 dX1_side_15 h
  · refine pw_aload_n hO dX1_side_4 0 rfl ?_
    refine pw_getR hO dX1_side_5 fl_X1_12 h (fun q3 h => ?_)
    refine pw_goto (tgt := 15) hO dX1_side_8 (by decide) ?_
    exact pw_aret hO hX.2 dX1_side_15 h
theorem ct_X1_side {n : Nat} {F : Hp} {a0 : Nat} {a1 : Int32} {rx : Nat} {F' : Hp} (h : g_X1_side F a0 a1 = some (rx, F')) : CT yX1_side cX1_side 2 (some (FieldType.object "DozeLink$Side")) (rmd 0) n F [.ref a0, .int a1] (some (.ref rx)) F' :=
  ct_intro (own := RX1) (nm := false) (by decide) rfl (fun h => by cases h) (Nat.le_of_ble_eq_true rfl) (fun X hn hX => bl_X1_side hX F a0 a1 h)
def g_X1_wakeTime (F : Hp) (a0 : Nat) : Option (Int32 × Hp) := ((gR F a0 1 0).bind fun q1 => ((gI F q1 3 0).bind fun x2 => ((gR F a0 1 1).bind fun q3 => ((gI F q3 3 0).bind fun x4 => ((gR F a0 1 0).bind fun q5 => ((gI F q5 3 3).bind fun x6 => ((gR F a0 1 1).bind fun q7 => ((gI F q7 3 3).bind fun x8 => some ((jmax (jmax x2 x4) (jmax x6 x8)), F)))))))))
set_option maxHeartbeats 4000000 in
theorem bl_X1_wakeTime {X : Cx} {rx : Int32} {F' : Hp} (hX : Md X cX1_wakeTime RX1 1 (rmd 1) (some FieldType.int) false (some (.int rx)) F') (F : Hp) (a0 : Nat) (h : g_X1_wakeTime F a0 = some (rx, F')) : PW X 0 0 F 0 [(0, .ref a0)] [] := by
  have hO := hX.1
  unfold g_X1_wakeTime at h
  refine pw_aload_n hO dX1_wakeTime_0 0 rfl ?_
  refine pw_getR hO dX1_wakeTime_1 fl_X1_12 h (fun q1 h => ?_)
  refine pw_getI hO dX1_wakeTime_4 fl_X1_67 h (fun x2 h => ?_)
  refine pw_aload_n hO dX1_wakeTime_7 0 rfl ?_
  refine pw_getR hO dX1_wakeTime_8 fl_X1_18 h (fun q3 h => ?_)
  refine pw_getI hO dX1_wakeTime_11 fl_X1_67 h (fun x4 h => ?_)
  refine pw_mmax (st := []) hO dX1_wakeTime_14 mt_X1_70 (Nat.le_of_ble_eq_true rfl) (Nat.le_of_ble_eq_true rfl) ⟨Nat.zero_le _, Nat.zero_le _⟩ (Nat.le_of_ble_eq_true rfl) ?_
  refine pw_aload_n hO dX1_wakeTime_17 0 rfl ?_
  refine pw_getR hO dX1_wakeTime_18 fl_X1_12 h (fun q5 h => ?_)
  refine pw_getI hO dX1_wakeTime_21 fl_X1_76 h (fun x6 h => ?_)
  refine pw_aload_n hO dX1_wakeTime_24 0 rfl ?_
  refine pw_getR hO dX1_wakeTime_25 fl_X1_18 h (fun q7 h => ?_)
  refine pw_getI hO dX1_wakeTime_28 fl_X1_76 h (fun x8 h => ?_)
  refine pw_mmax (st := [.int (jmax x2 x4)]) hO dX1_wakeTime_31 mt_X1_70 (Nat.le_of_ble_eq_true rfl) (Nat.le_of_ble_eq_true rfl) ⟨Nat.zero_le _, Nat.zero_le _⟩ (Nat.le_of_ble_eq_true rfl) ?_
  refine pw_mmax (st := []) hO dX1_wakeTime_34 mt_X1_70 (Nat.le_of_ble_eq_true rfl) (Nat.le_of_ble_eq_true rfl) ⟨Nat.zero_le _, Nat.zero_le _⟩ (Nat.le_of_ble_eq_true rfl) ?_
  exact pw_iret hO hX.2 dX1_wakeTime_37 h
theorem ct_X1_wakeTime {n : Nat} {F : Hp} {a0 : Nat} {rx : Int32} {F' : Hp} (h : g_X1_wakeTime F a0 = some (rx, F')) : CT yX1_wakeTime cX1_wakeTime 1 (some FieldType.int) (rmd 1) n F [.ref a0] (some (.int rx)) F' :=
  ct_intro (own := RX1) (nm := false) (by decide) rfl (fun h => by cases h) (Nat.le_of_ble_eq_true rfl) (fun X hn hX => bl_X1_wakeTime hX F a0 h)
def g_X1_figure (F : Hp) (a0 : Nat) (a1 : Int32) : Option (Int32 × Hp) := (if a1 = 0 then ((gI F a0 1 5).bind fun x2 => some (x2, F)) else (if a1 = 1 then ((gI F a0 1 6).bind fun x4 => some (x4, F)) else (if a1 = 2 then ((gI F a0 1 7).bind fun x6 => some (x6, F)) else (if a1 = 3 then (ckO F a0 1 (bnd2 (g_X1_wakeTime F a0) fun x9 F8 => some (x9, F8))) else (if a1 = 4 then ((gI F a0 1 8).bind fun x11 => some (x11, F)) else (if a1 = 5 then ((gI F a0 1 9).bind fun x13 => some (x13, F)) else (if a1 = 6 then ((gI F a0 1 10).bind fun x15 => some (x15, F)) else (if a1 = 7 then ((gI F a0 1 11).bind fun x17 => some (x17, F)) else (if a1 = 8 then ((gI F a0 1 12).bind fun x19 => some (x19, F)) else ((gI F a0 1 13).bind fun x20 => some (x20, F)))))))))))
set_option maxHeartbeats 4000000 in
theorem bl_X1_figure {X : Cx} {rx : Int32} {F' : Hp} (hX : Md X cX1_figure RX1 2 (rmd 2) (some FieldType.int) false (some (.int rx)) F') (F : Hp) (a0 : Nat) (a1 : Int32) (h : g_X1_figure F a0 a1 = some (rx, F')) : PW X 0 0 F 0 [(0, .ref a0), (1, .int a1)] [] := by
  have hO := hX.1
  unfold g_X1_figure at h
  refine pw_iload_n hO dX1_figure_0 1 rfl ?_
  refine pw_sw h (fun c1 h => ?_) (fun c1 h => ?_)
  · refine pw_tin (tgt := 52) hO dX1_figure_1 c1 (by decide) (by decide) (by rfl) (by decide) ?_
    refine pw_aload_n hO dX1_figure_52 0 rfl ?_
    refine pw_getI hO dX1_figure_53 fl_X1_32 h (fun x2 h => ?_)
    exact pw_iret hO hX.2 dX1_figure_56 h
  refine pw_sw h (fun c3 h => ?_) (fun c3 h => ?_)
  · refine pw_tin (tgt := 57) hO dX1_figure_1 c3 (by decide) (by decide) (by rfl) (by decide) ?_
    refine pw_aload_n hO dX1_figure_57 0 rfl ?_
    refine pw_getI hO dX1_figure_58 fl_X1_35 h (fun x4 h => ?_)
    exact pw_iret hO hX.2 dX1_figure_61 h
  refine pw_sw h (fun c5 h => ?_) (fun c5 h => ?_)
  · refine pw_tin (tgt := 62) hO dX1_figure_1 c5 (by decide) (by decide) (by rfl) (by decide) ?_
    refine pw_aload_n hO dX1_figure_62 0 rfl ?_
    refine pw_getI hO dX1_figure_63 fl_X1_38 h (fun x6 h => ?_)
    exact pw_iret hO hX.2 dX1_figure_66 h
  refine pw_sw h (fun c7 h => ?_) (fun c7 h => ?_)
  · refine pw_tin (tgt := 67) hO dX1_figure_1 c7 (by decide) (by decide) (by rfl) (by decide) ?_
    refine pw_aload_n hO dX1_figure_67 0 rfl ?_
    refine pw_VI (a := a0) (ci := 1) (as := []) (st := []) (d := 1) hO [.ref a0] dX1_figure_68 vl_X1_63 h (fun r F1 hg n => ct_X1_wakeTime hg) ⟨Nat.le_of_ble_eq_true rfl, Nat.le_of_ble_eq_true rfl⟩ ⟨Nat.zero_le _, Nat.zero_le _⟩ (Nat.le_of_ble_eq_true rfl) (fun _ _ => rfl) rfl (fun x9 F8 h => ?_)
    exact pw_iret hO hX.2 dX1_figure_71 h
  refine pw_sw h (fun c10 h => ?_) (fun c10 h => ?_)
  · refine pw_tin (tgt := 72) hO dX1_figure_1 c10 (by decide) (by decide) (by rfl) (by decide) ?_
    refine pw_aload_n hO dX1_figure_72 0 rfl ?_
    refine pw_getI hO dX1_figure_73 fl_X1_41 h (fun x11 h => ?_)
    exact pw_iret hO hX.2 dX1_figure_76 h
  refine pw_sw h (fun c12 h => ?_) (fun c12 h => ?_)
  · refine pw_tin (tgt := 77) hO dX1_figure_1 c12 (by decide) (by decide) (by rfl) (by decide) ?_
    refine pw_aload_n hO dX1_figure_77 0 rfl ?_
    refine pw_getI hO dX1_figure_78 fl_X1_44 h (fun x13 h => ?_)
    exact pw_iret hO hX.2 dX1_figure_81 h
  refine pw_sw h (fun c14 h => ?_) (fun c14 h => ?_)
  · refine pw_tin (tgt := 82) hO dX1_figure_1 c14 (by decide) (by decide) (by rfl) (by decide) ?_
    refine pw_aload_n hO dX1_figure_82 0 rfl ?_
    refine pw_getI hO dX1_figure_83 fl_X1_47 h (fun x15 h => ?_)
    exact pw_iret hO hX.2 dX1_figure_86 h
  refine pw_sw h (fun c16 h => ?_) (fun c16 h => ?_)
  · refine pw_tin (tgt := 87) hO dX1_figure_1 c16 (by decide) (by decide) (by rfl) (by decide) ?_
    refine pw_aload_n hO dX1_figure_87 0 rfl ?_
    refine pw_getI hO dX1_figure_88 fl_X1_50 h (fun x17 h => ?_)
    exact pw_iret hO hX.2 dX1_figure_91 h
  refine pw_sw h (fun c18 h => ?_) (fun c18 h => ?_)
  · refine pw_tin (tgt := 92) hO dX1_figure_1 c18 (by decide) (by decide) (by rfl) (by decide) ?_
    refine pw_aload_n hO dX1_figure_92 0 rfl ?_
    refine pw_getI hO dX1_figure_93 fl_X1_53 h (fun x19 h => ?_)
    exact pw_iret hO hX.2 dX1_figure_96 h
  refine pw_tout (tgt := 97) hO dX1_figure_1 (by have e0 := lv_neT (a := 0) c1 (by decide); have e1 := lv_neT (a := 1) c3 (by decide); have e2 := lv_neT (a := 2) c5 (by decide); have e3 := lv_neT (a := 3) c7 (by decide); have e4 := lv_neT (a := 4) c10 (by decide); have e5 := lv_neT (a := 5) c12 (by decide); have e6 := lv_neT (a := 6) c14 (by decide); have e7 := lv_neT (a := 7) c16 (by decide); have e8 := lv_neT (a := 8) c18 (by decide); omega) (by decide) ?_
  refine pw_aload_n hO dX1_figure_97 0 rfl ?_
  refine pw_getI hO dX1_figure_98 fl_X1_56 h (fun x20 h => ?_)
  exact pw_iret hO hX.2 dX1_figure_101 h
theorem ct_X1_figure {n : Nat} {F : Hp} {a0 : Nat} {a1 : Int32} {rx : Int32} {F' : Hp} (h : g_X1_figure F a0 a1 = some (rx, F')) : CT yX1_figure cX1_figure 2 (some FieldType.int) (rmd 2) n F [.ref a0, .int a1] (some (.int rx)) F' :=
  ct_intro (own := RX1) (nm := false) (by decide) rfl (fun h => by cases h) (Nat.le_of_ble_eq_true rfl) (fun X hn hX => bl_X1_figure hX F a0 a1 h)
def g_X1_price (F : Hp) (a0 : Nat) : Option (Int32 × Hp) := ((gI F a0 1 9).bind fun x1 => ((gI F a0 1 11).bind fun x2 => ((gI F a0 1 13).bind fun x3 => some (((x1 + x2) + (20 * x3)), F))))
set_option maxHeartbeats 4000000 in
theorem bl_X1_price {X : Cx} {rx : Int32} {F' : Hp} (hX : Md X cX1_price RX1 1 (rmd 0) (some FieldType.int) false (some (.int rx)) F') (F : Hp) (a0 : Nat) (h : g_X1_price F a0 = some (rx, F')) : PW X 0 0 F 0 [(0, .ref a0)] [] := by
  have hO := hX.1
  unfold g_X1_price at h
  refine pw_aload_n hO dX1_price_0 0 rfl ?_
  refine pw_getI hO dX1_price_1 fl_X1_44 h (fun x1 h => ?_)
  refine pw_aload_n hO dX1_price_4 0 rfl ?_
  refine pw_getI hO dX1_price_5 fl_X1_50 h (fun x2 h => ?_)
  refine pw_iadd hO dX1_price_8 ?_
  refine pw_bipush hO dX1_price_9 (v := 20) (by decide) ?_
  refine pw_aload_n hO dX1_price_11 0 rfl ?_
  refine pw_getI hO dX1_price_12 fl_X1_56 h (fun x3 h => ?_)
  refine pw_imul hO dX1_price_15 ?_
  refine pw_iadd hO dX1_price_16 ?_
  exact pw_iret hO hX.2 dX1_price_17 h
theorem ct_X1_price {n : Nat} {F : Hp} {a0 : Nat} {rx : Int32} {F' : Hp} (h : g_X1_price F a0 = some (rx, F')) : CT yX1_price cX1_price 1 (some FieldType.int) (rmd 0) n F [.ref a0] (some (.int rx)) F' :=
  ct_intro (own := RX1) (nm := false) (by decide) rfl (fun h => by cases h) (Nat.le_of_ble_eq_true rfl) (fun X hn hX => bl_X1_price hX F a0 h)
def g_X1_holdsNone (F : Hp) (a0 : Nat) : Option (Int32 × Hp) := ((gR F a0 1 0).bind fun q1 => ((gI F q1 3 4).bind fun x2 => (if x2 = 0 then ((gR F a0 1 1).bind fun q4 => ((gI F q4 3 4).bind fun x5 => (if x5 = 0 then some (1, F) else some (0, F)))) else some (0, F))))
set_option maxHeartbeats 4000000 in
theorem bl_X1_holdsNone {X : Cx} {rx : Int32} {F' : Hp} (hX : Md X cX1_holdsNone RX1 1 (rmd 0) (some FieldType.boolean) false (some (.int rx)) F') (F : Hp) (a0 : Nat) (h : g_X1_holdsNone F a0 = some (rx, F')) : PW X 0 0 F 0 [(0, .ref a0)] [] := by
  have hO := hX.1
  unfold g_X1_holdsNone at h
  refine pw_aload_n hO dX1_holdsNone_0 0 rfl ?_
  refine pw_getR hO dX1_holdsNone_1 fl_X1_12 h (fun q1 h => ?_)
  refine pw_getI hO dX1_holdsNone_4 fl_X1_79 h (fun x2 h => ?_)
  refine pw_if_ne (tgt := 24) hO dX1_holdsNone_7 (by decide) h (fun c3 h => ?_) (fun c3 h => ?_)
  · refine pw_iconst hO dX1_holdsNone_24 (v := 0) (by decide) ?_
    exact pw_zretc hO hX.2 dX1_holdsNone_25 (Or.inl rfl) h
  · refine pw_aload_n hO dX1_holdsNone_10 0 rfl ?_
    refine pw_getR hO dX1_holdsNone_11 fl_X1_18 h (fun q4 h => ?_)
    refine pw_getI hO dX1_holdsNone_14 fl_X1_79 h (fun x5 h => ?_)
    refine pw_if_ne (tgt := 24) hO dX1_holdsNone_17 (by decide) h (fun c6 h => ?_) (fun c6 h => ?_)
    · refine pw_iconst hO dX1_holdsNone_24 (v := 0) (by decide) ?_
      exact pw_zretc hO hX.2 dX1_holdsNone_25 (Or.inl rfl) h
    · refine pw_iconst hO dX1_holdsNone_20 (v := 1) (by decide) ?_
      refine pw_goto (tgt := 25) hO dX1_holdsNone_21 (by decide) ?_
      exact pw_zretc hO hX.2 dX1_holdsNone_25 (Or.inr rfl) h
theorem ct_X1_holdsNone {n : Nat} {F : Hp} {a0 : Nat} {rx : Int32} {F' : Hp} (h : g_X1_holdsNone F a0 = some (rx, F')) : CT yX1_holdsNone cX1_holdsNone 1 (some FieldType.boolean) (rmd 0) n F [.ref a0] (some (.int rx)) F' :=
  ct_intro (own := RX1) (nm := false) (by decide) rfl (fun h => by cases h) (Nat.le_of_ble_eq_true rfl) (fun X hn hX => bl_X1_holdsNone hX F a0 h)
def g_X1_isAtRest_b22 (F : Hp) : Option (Int32 × Hp) := some (1, F)
set_option maxHeartbeats 4000000 in
theorem bl_X1_isAtRest_b22 {X : Cx} {rx : Int32} {F' : Hp} (hX : Md X cX1_isAtRest RX1 1 (rmd 1) (some FieldType.boolean) false (some (.int rx)) F') (F : Hp) (h : g_X1_isAtRest_b22 F = some (rx, F')) : PW X 0 0 F 22 [] [] := by
  have hO := hX.1
  unfold g_X1_isAtRest_b22 at h
  refine pw_iconst hO dX1_isAtRest_22 (v := 1) (by decide) ?_
  refine pw_goto (tgt := 27) hO dX1_isAtRest_23 (by decide) ?_
  exact pw_zretc hO hX.2 dX1_isAtRest_27 (Or.inr rfl) h
def g_X1_isAtRest (F : Hp) (a0 : Nat) : Option (Int32 × Hp) := (ckO F a0 1 (bnd2 (g_X1_holdsNone F a0) fun x2 F1 => (if x2 = 0 then some (0, F1) else ((gI F1 a0 1 5).bind fun x4 => (if x4 = 2 then g_X1_isAtRest_b22 F1 else ((gI F1 a0 1 2).bind fun x6 => (if x6 = 0 then g_X1_isAtRest_b22 F1 else some (0, F1))))))))
set_option maxHeartbeats 4000000 in
theorem bl_X1_isAtRest {X : Cx} {rx : Int32} {F' : Hp} (hX : Md X cX1_isAtRest RX1 1 (rmd 1) (some FieldType.boolean) false (some (.int rx)) F') (F : Hp) (a0 : Nat) (h : g_X1_isAtRest F a0 = some (rx, F')) : PW X 0 0 F 0 [(0, .ref a0)] [] := by
  have hO := hX.1
  unfold g_X1_isAtRest at h
  refine pw_aload_n hO dX1_isAtRest_0 0 rfl ?_
  refine pw_VI (a := a0) (ci := 1) (as := []) (st := []) (d := 0) hO [.ref a0] dX1_isAtRest_1 vl_X1_82 h (fun r F1 hg n => ct_X1_holdsNone hg) ⟨Nat.le_of_ble_eq_true rfl, Nat.le_of_ble_eq_true rfl⟩ ⟨Nat.zero_le _, Nat.zero_le _⟩ (Nat.le_of_ble_eq_true rfl) (fun _ _ => rfl) rfl (fun x2 F1 h => ?_)
  refine pw_if_eq (tgt := 26) hO dX1_isAtRest_4 (by decide) h (fun c3 h => ?_) (fun c3 h => ?_)
  · refine pw_iconst hO dX1_isAtRest_26 (v := 0) (by decide) ?_
    exact pw_zretc hO hX.2 dX1_isAtRest_27 (Or.inl rfl) h
  · refine pw_aload_n hO dX1_isAtRest_7 0 rfl ?_
    refine pw_getI hO dX1_isAtRest_8 fl_X1_32 h (fun x4 h => ?_)
    refine pw_iconst hO dX1_isAtRest_11 (v := 2) (by decide) ?_
    refine pw_icmp_eq (tgt := 22) hO dX1_isAtRest_12 (by decide) h (fun c5 h => ?_) (fun c5 h => ?_)
    · refine pw_sub (lv1 := []) [] rfl ?_
      exact bl_X1_isAtRest_b22 hX F1 h
    · refine pw_aload_n hO dX1_isAtRest_15 0 rfl ?_
      refine pw_getI hO dX1_isAtRest_16 fl_X1_21 h (fun x6 h => ?_)
      refine pw_if_ne (tgt := 26) hO dX1_isAtRest_19 (by decide) h (fun c7 h => ?_) (fun c7 h => ?_)
      · refine pw_iconst hO dX1_isAtRest_26 (v := 0) (by decide) ?_
        exact pw_zretc hO hX.2 dX1_isAtRest_27 (Or.inl rfl) h
      · refine pw_sub (lv1 := []) [] rfl ?_
        exact bl_X1_isAtRest_b22 hX F1 h
theorem ct_X1_isAtRest {n : Nat} {F : Hp} {a0 : Nat} {rx : Int32} {F' : Hp} (h : g_X1_isAtRest F a0 = some (rx, F')) : CT yX1_isAtRest cX1_isAtRest 1 (some FieldType.boolean) (rmd 1) n F [.ref a0] (some (.int rx)) F' :=
  ct_intro (own := RX1) (nm := false) (by decide) rfl (fun h => by cases h) (Nat.le_of_ble_eq_true rfl) (fun X hn hX => bl_X1_isAtRest hX F a0 h)
def g_X1_receive (F : Hp) (a0 : Nat) (a1 : Int32) (a2 : Int32) : Option (Int32 × Hp) := (ckO F a0 1 (bnd2 (g_X1_side F a0 a1) fun q2 F1 => ((gI F1 a0 1 8).bind fun x3 => (ckO F1 q2 3 (bnd2 (g_X3_append F1 q2 ((10 * x3) + a2)) fun x5 F4 => (if x5 = 0 ∨ x5 = 1 then some (x5, F4) else none))))))
set_option maxHeartbeats 4000000 in
theorem bl_X1_receive {X : Cx} {rx : Int32} {F' : Hp} (hX : Md X cX1_receive RX1 3 (rmd 1) (some FieldType.boolean) false (some (.int rx)) F') (F : Hp) (a0 : Nat) (a1 : Int32) (a2 : Int32) (h : g_X1_receive F a0 a1 a2 = some (rx, F')) : PW X 0 0 F 0 [(0, .ref a0), (1, .int a1), (2, .int a2)] [] := by
  have hO := hX.1
  unfold g_X1_receive at h
  refine pw_aload_n hO dX1_receive_0 0 rfl ?_
  refine pw_iload_n hO dX1_receive_1 1 rfl ?_
  refine pw_VR (a := a0) (ci := 1) (as := [.int a1]) (st := []) (d := 0) hO [.int a1, .ref a0] dX1_receive_2 vl_X1_86 h (fun r F1 hg n => ct_X1_side hg) ⟨Nat.le_of_ble_eq_true rfl, Nat.le_of_ble_eq_true rfl⟩ ⟨Nat.zero_le _, Nat.zero_le _⟩ (Nat.le_of_ble_eq_true rfl) (fun _ _ => rfl) rfl (fun q2 F1 h => ?_)
  refine pw_bipush hO dX1_receive_5 (v := 10) (by decide) ?_
  refine pw_aload_n hO dX1_receive_7 0 rfl ?_
  refine pw_getI hO dX1_receive_8 fl_X1_41 h (fun x3 h => ?_)
  refine pw_imul hO dX1_receive_11 ?_
  refine pw_iload_n hO dX1_receive_12 2 rfl ?_
  refine pw_iadd hO dX1_receive_13 ?_
  refine pw_VI (a := q2) (ci := 3) (as := [.int ((10 * x3) + a2)]) (st := []) (d := 0) hO [.int ((10 * x3) + a2), .ref q2] dX1_receive_14 vl_X1_90 h (fun r F1 hg n => ct_X3_append hg) ⟨Nat.le_of_ble_eq_true rfl, Nat.le_of_ble_eq_true rfl⟩ ⟨Nat.zero_le _, Nat.zero_le _⟩ (Nat.le_of_ble_eq_true rfl) (fun _ _ => rfl) rfl (fun x5 F4 h => ?_)
  exact pw_zret hO hX.2 dX1_receive_17 h
theorem ct_X1_receive {n : Nat} {F : Hp} {a0 : Nat} {a1 : Int32} {a2 : Int32} {rx : Int32} {F' : Hp} (h : g_X1_receive F a0 a1 a2 = some (rx, F')) : CT yX1_receive cX1_receive 3 (some FieldType.boolean) (rmd 1) n F [.ref a0, .int a1, .int a2] (some (.int rx)) F' :=
  ct_intro (own := RX1) (nm := false) (by decide) rfl (fun h => by cases h) (Nat.le_of_ble_eq_true rfl) (fun X hn hX => bl_X1_receive hX F a0 a1 a2 h)
def g_X1_retell (F : Hp) (a0 : Nat) (a1 : Int32) (a2 : Int32) (a3 : Int32) : Option (Int32 × Hp) := (ckO F a0 1 (bnd2 (g_X1_side F a0 a1) fun q2 F1 => (if a2 = 0 then ((gI F1 q2 3 0).bind fun x9 => ((pV F1 q2 3 0 (.int a3)).bind fun F10 => (ckO F10 a0 1 (bnd2 (g_X1_receive F10 a0 a1 a3) fun x12 F11 => some (x9, F11))))) else (if a2 = 1 then ((gI F1 q2 3 1).bind fun x7 => ((pV F1 q2 3 1 (.int a3)).bind fun F8 => some (x7, F8))) else ((gI F1 q2 3 2).bind fun x5 => ((pV F1 q2 3 2 (.int a3)).bind fun F6 => some (x5, F6)))))))
set_option maxHeartbeats 4000000 in
theorem bl_X1_retell {X : Cx} {rx : Int32} {F' : Hp} (hX : Md X cX1_retell RX1 6 (rmd 2) (some FieldType.int) false (some (.int rx)) F') (F : Hp) (a0 : Nat) (a1 : Int32) (a2 : Int32) (a3 : Int32) (h : g_X1_retell F a0 a1 a2 a3 = some (rx, F')) : PW X 0 0 F 0 [(0, .ref a0), (1, .int a1), (2, .int a2), (3, .int a3)] [] := by
  have hO := hX.1
  unfold g_X1_retell at h
  refine pw_aload_n hO dX1_retell_0 0 rfl ?_
  refine pw_iload_n hO dX1_retell_1 1 rfl ?_
  refine pw_VR (a := a0) (ci := 1) (as := [.int a1]) (st := []) (d := 0) hO [.int a1, .ref a0] dX1_retell_2 vl_X1_86 h (fun r F1 hg n => ct_X1_side hg) ⟨Nat.le_of_ble_eq_true rfl, Nat.le_of_ble_eq_true rfl⟩ ⟨Nat.zero_le _, Nat.zero_le _⟩ (Nat.le_of_ble_eq_true rfl) (fun _ _ => rfl) rfl (fun q2 F1 h => ?_)
  refine pw_astore hO [(4, .ref q2), (0, .ref a0), (1, .int a1), (2, .int a2), (3, .int a3)] dX1_retell_5 (by decide) rfl ?_
  refine pw_iload_n hO dX1_retell_7 3 rfl ?_
  refine pw_if_ne (tgt := 34) hO dX1_retell_8 (by decide) h (fun c3 h => ?_) (fun c3 h => ?_)
  · refine pw_iload_n hO dX1_retell_34 3 rfl ?_
    refine pw_iconst hO dX1_retell_35 (v := 1) (by decide) ?_
    refine pw_icmp_ne (tgt := 55) hO dX1_retell_36 (by decide) h (fun c4 h => ?_) (fun c4 h => ?_)
    · refine pw_aload hO dX1_retell_55 0 rfl ?_
      refine pw_getI hO dX1_retell_57 fl_X1_101 h (fun x5 h => ?_)
      refine pw_istore hO [(5, .int x5), (4, .ref q2), (0, .ref a0), (1, .int a1), (2, .int a2), (3, .int a3)] dX1_retell_60 (by decide) rfl ?_
      refine pw_aload hO dX1_retell_62 1 rfl ?_
      refine pw_iload_n hO dX1_retell_64 5 rfl ?_
      refine pw_putI hO dX1_retell_65 fp_X1_101 h (fun F6 h => ?_)
      refine pw_iload hO dX1_retell_68 0 rfl ?_
      exact pw_iret hO hX.2 dX1_retell_70 h
    · refine pw_aload hO dX1_retell_39 0 rfl ?_
      refine pw_getI hO dX1_retell_41 fl_X1_98 h (fun x7 h => ?_)
      refine pw_istore hO [(5, .int x7), (4, .ref q2), (0, .ref a0), (1, .int a1), (2, .int a2), (3, .int a3)] dX1_retell_44 (by decide) rfl ?_
      refine pw_aload hO dX1_retell_46 1 rfl ?_
      refine pw_iload_n hO dX1_retell_48 5 rfl ?_
      refine pw_putI hO dX1_retell_49 fp_X1_98 h (fun F8 h => ?_)
      refine pw_goto (tgt := 68) hO dX1_retell_52 (by decide) ?_
      refine pw_iload hO dX1_retell_68 0 rfl ?_
      exact pw_iret hO hX.2 dX1_retell_70 h
  · refine pw_aload hO dX1_retell_11 0 rfl ?_
    refine pw_getI hO dX1_retell_13 fl_X1_67 h (fun x9 h => ?_)
    refine pw_istore hO [(5, .int x9), (4, .ref q2), (0, .ref a0), (1, .int a1), (2, .int a2), (3, .int a3)] dX1_retell_16 (by decide) rfl ?_
    refine pw_aload hO dX1_retell_18 1 rfl ?_
    refine pw_iload_n hO dX1_retell_20 5 rfl ?_
    refine pw_putI hO dX1_retell_21 fp_X1_67 h (fun F10 h => ?_)
    refine pw_aload_n hO dX1_retell_24 2 rfl ?_
    refine pw_iload_n hO dX1_retell_25 3 rfl ?_
    refine pw_iload_n hO dX1_retell_26 5 rfl ?_
    refine pw_VI (a := a0) (ci := 1) (as := [.int a1, .int a3]) (st := []) (d := 1) hO [.int a3, .int a1, .ref a0] dX1_retell_27 vl_X1_94 h (fun r F1 hg n => ct_X1_receive hg) ⟨Nat.le_of_ble_eq_true rfl, Nat.le_of_ble_eq_true rfl⟩ ⟨Nat.zero_le _, Nat.zero_le _⟩ (Nat.le_of_ble_eq_true rfl) (fun _ _ => rfl) rfl (fun x12 F11 h => ?_)
    refine pw_pop hO dX1_retell_30 rfl ?_
    refine pw_goto (tgt := 68) hO dX1_retell_31 (by decide) ?_
    refine pw_iload hO dX1_retell_68 0 rfl ?_
    exact pw_iret hO hX.2 dX1_retell_70 h
theorem ct_X1_retell {n : Nat} {F : Hp} {a0 : Nat} {a1 : Int32} {a2 : Int32} {a3 : Int32} {rx : Int32} {F' : Hp} (h : g_X1_retell F a0 a1 a2 a3 = some (rx, F')) : CT yX1_retell cX1_retell 6 (some FieldType.int) (rmd 2) n F [.ref a0, .int a1, .int a2, .int a3] (some (.int rx)) F' :=
  ct_intro (own := RX1) (nm := false) (by decide) rfl (fun h => by cases h) (Nat.le_of_ble_eq_true rfl) (fun X hn hX => bl_X1_retell hX F a0 a1 a2 a3 h)
def g_X1_power (F : Hp) (a0 : Nat) : Option (Int32 × Hp) := ((gI F a0 1 5).bind fun x1 => (if x1 = 2 then ((gI F a0 1 4).bind fun x3 => (if x3 ≤ 0 then some (1, F) else ((gI F a0 1 7).bind fun x5 => ((gI F a0 1 4).bind fun x6 => (if x6 = 0 then none else (if (jrem (x5 + 1) x6) = 0 then some (5, F) else some (1, F))))))) else some (9, F)))
set_option maxHeartbeats 4000000 in
theorem bl_X1_power {X : Cx} {rx : Int32} {F' : Hp} (hX : Md X cX1_power RX1 1 (rmd 0) (some FieldType.int) false (some (.int rx)) F') (F : Hp) (a0 : Nat) (h : g_X1_power F a0 = some (rx, F')) : PW X 0 0 F 0 [(0, .ref a0)] [] := by
  have hO := hX.1
  unfold g_X1_power at h
  refine pw_aload_n hO dX1_power_0 0 rfl ?_
  refine pw_getI hO dX1_power_1 fl_X1_32 h (fun x1 h => ?_)
  refine pw_iconst hO dX1_power_4 (v := 2) (by decide) ?_
  refine pw_icmp_eq (tgt := 11) hO dX1_power_5 (by decide) h (fun c2 h => ?_) (fun c2 h => ?_)
  · refine pw_aload_n hO dX1_power_11 0 rfl ?_
    refine pw_getI hO dX1_power_12 fl_X1_29 h (fun x3 h => ?_)
    refine pw_if_le (tgt := 36) hO dX1_power_15 (by decide) h (fun c4 h => ?_) (fun c4 h => ?_)
    · refine pw_iconst hO dX1_power_36 (v := 1) (by decide) ?_
      exact pw_iret hO hX.2 dX1_power_37 h
    · refine pw_aload_n hO dX1_power_18 0 rfl ?_
      refine pw_getI hO dX1_power_19 fl_X1_38 h (fun x5 h => ?_)
      refine pw_iconst hO dX1_power_22 (v := 1) (by decide) ?_
      refine pw_iadd hO dX1_power_23 ?_
      refine pw_aload_n hO dX1_power_24 0 rfl ?_
      refine pw_getI hO dX1_power_25 fl_X1_29 h (fun x6 h => ?_)
      refine pw_irem hO dX1_power_28 h (fun h => ?_)
      refine pw_if_ne (tgt := 36) hO dX1_power_29 (by decide) h (fun c7 h => ?_) (fun c7 h => ?_)
      · refine pw_iconst hO dX1_power_36 (v := 1) (by decide) ?_
        exact pw_iret hO hX.2 dX1_power_37 h
      · refine pw_iconst hO dX1_power_32 (v := 5) (by decide) ?_
        refine pw_goto (tgt := 37) hO dX1_power_33 (by decide) ?_
        exact pw_iret hO hX.2 dX1_power_37 h
  · refine pw_bipush hO dX1_power_8 (v := 9) (by decide) ?_
    exact pw_iret hO hX.2 dX1_power_10 h
theorem ct_X1_power {n : Nat} {F : Hp} {a0 : Nat} {rx : Int32} {F' : Hp} (h : g_X1_power F a0 = some (rx, F')) : CT yX1_power cX1_power 1 (some FieldType.int) (rmd 0) n F [.ref a0] (some (.int rx)) F' :=
  ct_intro (own := RX1) (nm := false) (by decide) rfl (fun h => by cases h) (Nat.le_of_ble_eq_true rfl) (fun X hn hX => bl_X1_power hX F a0 h)
def g_X1_send (F : Hp) (a0 : Nat) (a1 : Nat) (a2 : Nat) : Option Hp := (ckO F a1 3 (bnd2 (g_X3_letterAt F a1 0) fun x2 F1 => (if x2 = (-9) then some F1 else (ckO F1 a1 3 ((g_X3_dropFirst F1 a1).bind fun F4 => ((gI F4 a0 1 8).bind fun x6 => ((gI F4 a0 1 10).bind fun x7 => ((pV F4 a0 1 10 (.int (x7 + 1))).bind fun F8 => ((gI F8 a0 1 11).bind fun x9 => ((pV F8 a0 1 11 (.int (x9 + (x6 - (x2 / 10))))).bind fun F10 => ((gI F10 a0 1 12).bind fun x11 => ((pV F10 a0 1 12 (.int (jmax x11 (x6 - (x2 / 10))))).bind fun F12 => (if (jrem x2 10) = 0 then some F12 else ((pV F12 a2 3 3 (.int (jrem x2 10))).bind fun F14 => some F14))))))))))))))
set_option maxHeartbeats 4000000 in
theorem bl_X1_send {X : Cx} {F' : Hp} (hX : Md X cX1_send RX1 5 (rmd 1) none false none F') (F : Hp) (a0 : Nat) (a1 : Nat) (a2 : Nat) (h : g_X1_send F a0 a1 a2 = some F') : PW X 0 0 F 0 [(0, .ref a0), (1, .ref a1), (2, .ref a2)] [] := by
  have hO := hX.1
  unfold g_X1_send at h
  refine pw_aload_n hO dX1_send_0 1 rfl ?_
  refine pw_iconst hO dX1_send_1 (v := 0) (by decide) ?_
  refine pw_VI (a := a1) (ci := 3) (as := [.int 0]) (st := []) (d := 0) hO [.int 0, .ref a1] dX1_send_2 vl_X1_120 h (fun r F1 hg n => ct_X3_letterAt hg) ⟨Nat.le_of_ble_eq_true rfl, Nat.le_of_ble_eq_true rfl⟩ ⟨Nat.zero_le _, Nat.zero_le _⟩ (Nat.le_of_ble_eq_true rfl) (fun _ _ => rfl) rfl (fun x2 F1 h => ?_)
  refine pw_istore_n hO [(3, .int x2), (0, .ref a0), (1, .ref a1), (2, .ref a2)] dX1_send_5 (by decide) rfl ?_
  refine pw_iload_n hO dX1_send_6 0 rfl ?_
  refine pw_bipush hO dX1_send_7 (v := (-9)) (by decide) ?_
  refine pw_icmp_ne (tgt := 13) hO dX1_send_9 (by decide) h (fun c3 h => ?_) (fun c3 h => ?_)
  · refine pw_aload_n hO dX1_send_13 2 rfl ?_
    refine pw_V0 (a := a1) (ci := 3) (as := []) (st := []) (d := 0) hO [.ref a1] dX1_send_14 vl_X1_124 h (fun F1 hg n => ct_X3_dropFirst hg) ⟨Nat.le_of_ble_eq_true rfl, Nat.le_of_ble_eq_true rfl⟩ ⟨Nat.zero_le _, Nat.zero_le _⟩ (Nat.le_of_ble_eq_true rfl) (fun _ _ => rfl) rfl (fun F4 h => ?_)
    refine pw_aload_n hO dX1_send_17 1 rfl ?_
    refine pw_getI hO dX1_send_18 fl_X1_41 h (fun x6 h => ?_)
    refine pw_iload_n hO dX1_send_21 0 rfl ?_
    refine pw_bipush hO dX1_send_22 (v := 10) (by decide) ?_
    refine pw_idivc hO dX1_send_24 (by decide) ?_
    refine pw_isub hO dX1_send_25 ?_
    refine pw_istore hO [(4, .int (x6 - (x2 / 10))), (3, .int x2), (0, .ref a0), (1, .ref a1), (2, .ref a2)] dX1_send_26 (by decide) rfl ?_
    refine pw_aload_n hO dX1_send_28 2 rfl ?_
    refine pw_dup hO dX1_send_29 rfl ?_
    refine pw_getI hO dX1_send_30 fl_X1_47 h (fun x7 h => ?_)
    refine pw_iconst hO dX1_send_33 (v := 1) (by decide) ?_
    refine pw_iadd hO dX1_send_34 ?_
    refine pw_putI hO dX1_send_35 fp_X1_47 h (fun F8 h => ?_)
    refine pw_aload_n hO dX1_send_38 2 rfl ?_
    refine pw_dup hO dX1_send_39 rfl ?_
    refine pw_getI hO dX1_send_40 fl_X1_50 h (fun x9 h => ?_)
    refine pw_iload hO dX1_send_43 0 rfl ?_
    refine pw_iadd hO dX1_send_45 ?_
    refine pw_putI hO dX1_send_46 fp_X1_50 h (fun F10 h => ?_)
    refine pw_aload_n hO dX1_send_49 2 rfl ?_
    refine pw_aload_n hO dX1_send_50 2 rfl ?_
    refine pw_getI hO dX1_send_51 fl_X1_53 h (fun x11 h => ?_)
    refine pw_iload hO dX1_send_54 0 rfl ?_
    refine pw_mmax (st := [.ref a0]) hO dX1_send_56 mt_X1_70 (Nat.le_of_ble_eq_true rfl) (Nat.le_of_ble_eq_true rfl) ⟨Nat.zero_le _, Nat.zero_le _⟩ (Nat.le_of_ble_eq_true rfl) ?_
    refine pw_putI hO dX1_send_59 fp_X1_53 h (fun F12 h => ?_)
    refine pw_iload_n hO dX1_send_62 1 rfl ?_
    refine pw_bipush hO dX1_send_63 (v := 10) (by decide) ?_
    refine pw_iremc hO dX1_send_65 (by decide) ?_
    refine pw_if_eq (tgt := 77) hO dX1_send_66 (by decide) h (fun c13 h => ?_) (fun c13 h => ?_)
    · exact pw_vret hO hX.2 dX1_send_77 h
    · refine pw_aload_n hO dX1_send_69 4 rfl ?_
      refine pw_iload_n hO dX1_send_70 1 rfl ?_
      refine pw_bipush hO dX1_send_71 (v := 10) (by decide) ?_
      refine pw_iremc hO dX1_send_73 (by decide) ?_
      refine pw_putI hO dX1_send_74 fp_X1_76 h (fun F14 h => ?_)
      exact pw_vret hO hX.2 dX1_send_77 h
  · exact pw_vret hO hX.2 dX1_send_12 h
theorem ct_X1_send {n : Nat} {F : Hp} {a0 : Nat} {a1 : Nat} {a2 : Nat} {F' : Hp} (h : g_X1_send F a0 a1 a2 = some F') : CT yX1_send cX1_send 5 none (rmd 1) n F [.ref a0, .ref a1, .ref a2] none F' :=
  ct_intro (own := RX1) (nm := false) (by decide) rfl (fun h => by cases h) (Nat.le_of_ble_eq_true rfl) (fun X hn hX => bl_X1_send hX F a0 a1 a2 h)
def g_X1_tick_b174 (F : Hp) (v0 : Nat) : Option Hp := ((pV F v0 1 5 (.int 3)).bind fun F40 => ((pV F40 v0 1 7 (.int 0)).bind fun F41 => (ckO F41 v0 1 (bnd2 (g_X1_wakeTime F41 v0) fun x43 F42 => ((pV F42 v0 1 6 (.int x43)).bind fun F44 => some F44)))))
set_option maxHeartbeats 4000000 in
theorem bl_X1_tick_b174 {X : Cx} {F' : Hp} (hX : Md X cX1_tick RX1 1 (rmd 2) none false none F') (F : Hp) (v0 : Nat) (h : g_X1_tick_b174 F v0 = some F') : PW X 0 0 F 174 [(0, .ref v0)] [] := by
  have hO := hX.1
  unfold g_X1_tick_b174 at h
  refine pw_aload_n hO dX1_tick_174 0 rfl ?_
  refine pw_iconst hO dX1_tick_175 (v := 3) (by decide) ?_
  refine pw_putI hO dX1_tick_176 fp_X1_32 h (fun F40 h => ?_)
  refine pw_aload_n hO dX1_tick_179 0 rfl ?_
  refine pw_iconst hO dX1_tick_180 (v := 0) (by decide) ?_
  refine pw_putI hO dX1_tick_181 fp_X1_38 h (fun F41 h => ?_)
  refine pw_aload_n hO dX1_tick_184 0 rfl ?_
  refine pw_aload_n hO dX1_tick_185 0 rfl ?_
  refine pw_VI (a := v0) (ci := 1) (as := []) (st := [.ref v0]) (d := 1) hO [.ref v0, .ref v0] dX1_tick_186 vl_X1_63 h (fun r F1 hg n => ct_X1_wakeTime hg) ⟨Nat.le_of_ble_eq_true rfl, Nat.le_of_ble_eq_true rfl⟩ ⟨Nat.zero_le _, Nat.zero_le _⟩ (Nat.le_of_ble_eq_true rfl) (fun _ _ => rfl) rfl (fun x43 F42 h => ?_)
  refine pw_putI hO dX1_tick_189 fp_X1_35 h (fun F44 h => ?_)
  refine pw_goto (tgt := 217) hO dX1_tick_192 (by decide) ?_
  exact pw_vret hO hX.2 dX1_tick_217 h
def g_X1_tick (F : Hp) (a0 : Nat) : Option Hp := ((gI F a0 1 9).bind fun x1 => (ckO F a0 1 (bnd2 (g_X1_power F a0) fun x3 F2 => ((pV F2 a0 1 9 (.int (x1 + x3))).bind fun F4 => ((gI F4 a0 1 8).bind fun x5 => ((pV F4 a0 1 8 (.int (x5 + 1))).bind fun F6 => ((gI F6 a0 1 5).bind fun x7 => (if x7 = 0 then ((gR F6 a0 1 0).bind fun q9 => ((gR F6 a0 1 1).bind fun q10 => (ckO F6 a0 1 ((g_X1_send F6 a0 q9 q10).bind fun F11 => ((gR F11 a0 1 1).bind fun q13 => ((gR F11 a0 1 0).bind fun q14 => (ckO F11 a0 1 ((g_X1_send F11 a0 q13 q14).bind fun F15 => ((gI F15 a0 1 2).bind fun x17 => (if x17 = 0 then some F15 else (ckO F15 a0 1 (bnd2 (g_X1_holdsNone F15 a0) fun x20 F19 => (if x20 = 0 then some F19 else ((pV F19 a0 1 5 (.int 1)).bind fun F22 => ((gI F22 a0 1 3).bind fun x23 => ((pV F22 a0 1 6 (.int x23)).bind fun F24 => some F24)))))))))))))))) else (if x7 = 1 then ((gI F6 a0 1 6).bind fun x26 => ((pV F6 a0 1 6 (.int (x26 - 1))).bind fun F27 => ((gI F27 a0 1 6).bind fun x28 => (if x28 = 0 then ((pV F27 a0 1 5 (.int 2)).bind fun F30 => ((pV F30 a0 1 7 (.int 0)).bind fun F31 => some F31)) else some F27)))) else (if x7 = 2 then ((gI F6 a0 1 7).bind fun x33 => ((pV F6 a0 1 7 (.int (x33 + 1))).bind fun F34 => ((gR F34 a0 1 0).bind fun q35 => ((gI F34 a0 1 8).bind fun x36 => (ckO F34 q35 3 (bnd2 (g_X3_isDue F34 q35 x36) fun x38 F37 => (if x38 = 0 then ((gR F37 a0 1 1).bind fun q45 => ((gI F37 a0 1 8).bind fun x46 => (ckO F37 q45 3 (bnd2 (g_X3_isDue F37 q45 x46) fun x48 F47 => (if x48 = 0 then some F47 else g_X1_tick_b174 F47 a0))))) else g_X1_tick_b174 F37 a0))))))) else ((gI F6 a0 1 6).bind fun x50 => ((pV F6 a0 1 6 (.int (x50 - 1))).bind fun F51 => ((gI F51 a0 1 6).bind fun x52 => (if x52 = 0 then ((pV F51 a0 1 5 (.int 0)).bind fun F54 => some F54) else some F51))))))))))))))
set_option maxHeartbeats 4000000 in
theorem bl_X1_tick {X : Cx} {F' : Hp} (hX : Md X cX1_tick RX1 1 (rmd 2) none false none F') (F : Hp) (a0 : Nat) (h : g_X1_tick F a0 = some F') : PW X 0 0 F 0 [(0, .ref a0)] [] := by
  have hO := hX.1
  unfold g_X1_tick at h
  refine pw_aload_n hO dX1_tick_0 0 rfl ?_
  refine pw_dup hO dX1_tick_1 rfl ?_
  refine pw_getI hO dX1_tick_2 fl_X1_44 h (fun x1 h => ?_)
  refine pw_aload_n hO dX1_tick_5 0 rfl ?_
  refine pw_VI (a := a0) (ci := 1) (as := []) (st := [.int x1, .ref a0]) (d := 0) hO [.ref a0, .int x1, .ref a0] dX1_tick_6 vl_X1_110 h (fun r F1 hg n => ct_X1_power hg) ⟨Nat.le_of_ble_eq_true rfl, Nat.le_of_ble_eq_true rfl⟩ ⟨Nat.zero_le _, Nat.zero_le _⟩ (Nat.le_of_ble_eq_true rfl) (fun _ _ => rfl) rfl (fun x3 F2 h => ?_)
  refine pw_iadd hO dX1_tick_9 ?_
  refine pw_putI hO dX1_tick_10 fp_X1_44 h (fun F4 h => ?_)
  refine pw_aload_n hO dX1_tick_13 0 rfl ?_
  refine pw_dup hO dX1_tick_14 rfl ?_
  refine pw_getI hO dX1_tick_15 fl_X1_41 h (fun x5 h => ?_)
  refine pw_iconst hO dX1_tick_18 (v := 1) (by decide) ?_
  refine pw_iadd hO dX1_tick_19 ?_
  refine pw_putI hO dX1_tick_20 fp_X1_41 h (fun F6 h => ?_)
  refine pw_aload_n hO dX1_tick_23 0 rfl ?_
  refine pw_getI hO dX1_tick_24 fl_X1_32 h (fun x7 h => ?_)
  refine pw_sw h (fun c8 h => ?_) (fun c8 h => ?_)
  · refine pw_tin (tgt := 52) hO dX1_tick_27 c8 (by decide) (by decide) (by rfl) (by decide) ?_
    refine pw_aload_n hO dX1_tick_52 0 rfl ?_
    refine pw_aload_n hO dX1_tick_53 0 rfl ?_
    refine pw_getR hO dX1_tick_54 fl_X1_12 h (fun q9 h => ?_)
    refine pw_aload_n hO dX1_tick_57 0 rfl ?_
    refine pw_getR hO dX1_tick_58 fl_X1_18 h (fun q10 h => ?_)
    refine pw_V0 (a := a0) (ci := 1) (as := [.ref q9, .ref q10]) (st := []) (d := 1) hO [.ref q10, .ref q9, .ref a0] dX1_tick_61 vl_X1_113 h (fun F1 hg n => ct_X1_send hg) ⟨Nat.le_of_ble_eq_true rfl, Nat.le_of_ble_eq_true rfl⟩ ⟨Nat.zero_le _, Nat.zero_le _⟩ (Nat.le_of_ble_eq_true rfl) (fun _ _ => rfl) rfl (fun F11 h => ?_)
    refine pw_aload_n hO dX1_tick_64 0 rfl ?_
    refine pw_aload_n hO dX1_tick_65 0 rfl ?_
    refine pw_getR hO dX1_tick_66 fl_X1_18 h (fun q13 h => ?_)
    refine pw_aload_n hO dX1_tick_69 0 rfl ?_
    refine pw_getR hO dX1_tick_70 fl_X1_12 h (fun q14 h => ?_)
    refine pw_V0 (a := a0) (ci := 1) (as := [.ref q13, .ref q14]) (st := []) (d := 1) hO [.ref q14, .ref q13, .ref a0] dX1_tick_73 vl_X1_113 h (fun F1 hg n => ct_X1_send hg) ⟨Nat.le_of_ble_eq_true rfl, Nat.le_of_ble_eq_true rfl⟩ ⟨Nat.zero_le _, Nat.zero_le _⟩ (Nat.le_of_ble_eq_true rfl) (fun _ _ => rfl) rfl (fun F15 h => ?_)
    refine pw_aload_n hO dX1_tick_76 0 rfl ?_
    refine pw_getI hO dX1_tick_77 fl_X1_21 h (fun x17 h => ?_)
    refine pw_if_eq (tgt := 217) hO dX1_tick_80 (by decide) h (fun c18 h => ?_) (fun c18 h => ?_)
    · exact pw_vret hO hX.2 dX1_tick_217 h
    · refine pw_aload_n hO dX1_tick_83 0 rfl ?_
      refine pw_VI (a := a0) (ci := 1) (as := []) (st := []) (d := 0) hO [.ref a0] dX1_tick_84 vl_X1_82 h (fun r F1 hg n => ct_X1_holdsNone hg) ⟨Nat.le_of_ble_eq_true rfl, Nat.le_of_ble_eq_true rfl⟩ ⟨Nat.zero_le _, Nat.zero_le _⟩ (Nat.le_of_ble_eq_true rfl) (fun _ _ => rfl) rfl (fun x20 F19 h => ?_)
      refine pw_if_eq (tgt := 217) hO dX1_tick_87 (by decide) h (fun c21 h => ?_) (fun c21 h => ?_)
      · exact pw_vret hO hX.2 dX1_tick_217 h
      · refine pw_aload_n hO dX1_tick_90 0 rfl ?_
        refine pw_iconst hO dX1_tick_91 (v := 1) (by decide) ?_
        refine pw_putI hO dX1_tick_92 fp_X1_32 h (fun F22 h => ?_)
        refine pw_aload_n hO dX1_tick_95 0 rfl ?_
        refine pw_aload_n hO dX1_tick_96 0 rfl ?_
        refine pw_getI hO dX1_tick_97 fl_X1_25 h (fun x23 h => ?_)
        refine pw_putI hO dX1_tick_100 fp_X1_35 h (fun F24 h => ?_)
        refine pw_goto (tgt := 217) hO dX1_tick_103 (by decide) ?_
        exact pw_vret hO hX.2 dX1_tick_217 h
  refine pw_sw h (fun c25 h => ?_) (fun c25 h => ?_)
  · refine pw_tin (tgt := 106) hO dX1_tick_27 c25 (by decide) (by decide) (by rfl) (by decide) ?_
    refine pw_aload_n hO dX1_tick_106 0 rfl ?_
    refine pw_dup hO dX1_tick_107 rfl ?_
    refine pw_getI hO dX1_tick_108 fl_X1_35 h (fun x26 h => ?_)
    refine pw_iconst hO dX1_tick_111 (v := 1) (by decide) ?_
    refine pw_isub hO dX1_tick_112 ?_
    refine pw_putI hO dX1_tick_113 fp_X1_35 h (fun F27 h => ?_)
    refine pw_aload_n hO dX1_tick_116 0 rfl ?_
    refine pw_getI hO dX1_tick_117 fl_X1_35 h (fun x28 h => ?_)
    refine pw_if_ne (tgt := 217) hO dX1_tick_120 (by decide) h (fun c29 h => ?_) (fun c29 h => ?_)
    · exact pw_vret hO hX.2 dX1_tick_217 h
    · refine pw_aload_n hO dX1_tick_123 0 rfl ?_
      refine pw_iconst hO dX1_tick_124 (v := 2) (by decide) ?_
      refine pw_putI hO dX1_tick_125 fp_X1_32 h (fun F30 h => ?_)
      refine pw_aload_n hO dX1_tick_128 0 rfl ?_
      refine pw_iconst hO dX1_tick_129 (v := 0) (by decide) ?_
      refine pw_putI hO dX1_tick_130 fp_X1_38 h (fun F31 h => ?_)
      refine pw_goto (tgt := 217) hO dX1_tick_133 (by decide) ?_
      exact pw_vret hO hX.2 dX1_tick_217 h
  refine pw_sw h (fun c32 h => ?_) (fun c32 h => ?_)
  · refine pw_tin (tgt := 136) hO dX1_tick_27 c32 (by decide) (by decide) (by rfl) (by decide) ?_
    refine pw_aload_n hO dX1_tick_136 0 rfl ?_
    refine pw_dup hO dX1_tick_137 rfl ?_
    refine pw_getI hO dX1_tick_138 fl_X1_38 h (fun x33 h => ?_)
    refine pw_iconst hO dX1_tick_141 (v := 1) (by decide) ?_
    refine pw_iadd hO dX1_tick_142 ?_
    refine pw_putI hO dX1_tick_143 fp_X1_38 h (fun F34 h => ?_)
    refine pw_aload_n hO dX1_tick_146 0 rfl ?_
    refine pw_getR hO dX1_tick_147 fl_X1_12 h (fun q35 h => ?_)
    refine pw_aload_n hO dX1_tick_150 0 rfl ?_
    refine pw_getI hO dX1_tick_151 fl_X1_41 h (fun x36 h => ?_)
    refine pw_VI (a := q35) (ci := 3) (as := [.int x36]) (st := []) (d := 0) hO [.int x36, .ref q35] dX1_tick_154 vl_X1_117 h (fun r F1 hg n => ct_X3_isDue hg) ⟨Nat.le_of_ble_eq_true rfl, Nat.le_of_ble_eq_true rfl⟩ ⟨Nat.zero_le _, Nat.zero_le _⟩ (Nat.le_of_ble_eq_true rfl) (fun _ _ => rfl) rfl (fun x38 F37 h => ?_)
    refine pw_if_ne (tgt := 174) hO dX1_tick_157 (by decide) h (fun c39 h => ?_) (fun c39 h => ?_)
    · refine pw_sub (lv1 := [(0, .ref a0)]) [0] rfl ?_
      exact bl_X1_tick_b174 hX F37 a0 h
    · refine pw_aload_n hO dX1_tick_160 0 rfl ?_
      refine pw_getR hO dX1_tick_161 fl_X1_18 h (fun q45 h => ?_)
      refine pw_aload_n hO dX1_tick_164 0 rfl ?_
      refine pw_getI hO dX1_tick_165 fl_X1_41 h (fun x46 h => ?_)
      refine pw_VI (a := q45) (ci := 3) (as := [.int x46]) (st := []) (d := 0) hO [.int x46, .ref q45] dX1_tick_168 vl_X1_117 h (fun r F1 hg n => ct_X3_isDue hg) ⟨Nat.le_of_ble_eq_true rfl, Nat.le_of_ble_eq_true rfl⟩ ⟨Nat.zero_le _, Nat.zero_le _⟩ (Nat.le_of_ble_eq_true rfl) (fun _ _ => rfl) rfl (fun x48 F47 h => ?_)
      refine pw_if_eq (tgt := 217) hO dX1_tick_171 (by decide) h (fun c49 h => ?_) (fun c49 h => ?_)
      · exact pw_vret hO hX.2 dX1_tick_217 h
      · refine pw_sub (lv1 := [(0, .ref a0)]) [0] rfl ?_
        exact bl_X1_tick_b174 hX F47 a0 h
  refine pw_tout (tgt := 195) hO dX1_tick_27 (by have e0 := lv_neT (a := 0) c8 (by decide); have e1 := lv_neT (a := 1) c25 (by decide); have e2 := lv_neT (a := 2) c32 (by decide); omega) (by decide) ?_
  refine pw_aload_n hO dX1_tick_195 0 rfl ?_
  refine pw_dup hO dX1_tick_196 rfl ?_
  refine pw_getI hO dX1_tick_197 fl_X1_35 h (fun x50 h => ?_)
  refine pw_iconst hO dX1_tick_200 (v := 1) (by decide) ?_
  refine pw_isub hO dX1_tick_201 ?_
  refine pw_putI hO dX1_tick_202 fp_X1_35 h (fun F51 h => ?_)
  refine pw_aload_n hO dX1_tick_205 0 rfl ?_
  refine pw_getI hO dX1_tick_206 fl_X1_35 h (fun x52 h => ?_)
  refine pw_if_ne (tgt := 217) hO dX1_tick_209 (by decide) h (fun c53 h => ?_) (fun c53 h => ?_)
  · exact pw_vret hO hX.2 dX1_tick_217 h
  · refine pw_aload_n hO dX1_tick_212 0 rfl ?_
    refine pw_iconst hO dX1_tick_213 (v := 0) (by decide) ?_
    refine pw_putI hO dX1_tick_214 fp_X1_32 h (fun F54 h => ?_)
    exact pw_vret hO hX.2 dX1_tick_217 h
theorem ct_X1_tick {n : Nat} {F : Hp} {a0 : Nat} {F' : Hp} (h : g_X1_tick F a0 = some F') : CT yX1_tick cX1_tick 1 none (rmd 2) n F [.ref a0] none F' :=
  ct_intro (own := RX1) (nm := false) (by decide) rfl (fun h => by cases h) (Nat.le_of_ble_eq_true rfl) (fun X hn hX => bl_X1_tick hX F a0 h)
def g_X1_elapse_b2 : Nat → Hp → Nat → Int32 → Int32 → Option Hp
  | 0, _, _, _, _ => none
  | n + 1, F, v0, v1, v2 => (if v1 ≤ v2 then some F else (ckO F v0 1 ((g_X1_tick F v0).bind fun F2 => g_X1_elapse_b2 n F2 v0 v1 ((v2 + 1)))))
set_option maxHeartbeats 4000000 in
theorem bl_X1_elapse_b2 {X : Cx} {F' : Hp} (hX : Md X cX1_elapse RX1 3 (rmd 3) none false none F') : ∀ (n : Nat) (F : Hp) (v0 : Nat) (v1 : Int32) (v2 : Int32), g_X1_elapse_b2 n F v0 v1 v2 = some F' → PW X 0 0 F 2 [(0, .ref v0), (1, .int v1), (2, .int v2)] [] := by
  have hO := hX.1
  intro n
  induction n with
  | zero => intro F v0 v1 v2 h; rw [g_X1_elapse_b2] at h; cases h
  | succ n ih =>
    intro F v0 v1 v2 h
    rw [g_X1_elapse_b2] at h
    refine pw_iload_n hO dX1_elapse_2 2 rfl ?_
    refine pw_iload_n hO dX1_elapse_3 1 rfl ?_
    refine pw_icmp_ge (tgt := 17) hO dX1_elapse_4 (by decide) h (fun c1 h => ?_) (fun c1 h => ?_)
    · exact pw_vret hO hX.2 dX1_elapse_17 h
    · refine pw_aload_n hO dX1_elapse_7 0 rfl ?_
      refine pw_V0 (a := v0) (ci := 1) (as := []) (st := []) (d := 2) hO [.ref v0] dX1_elapse_8 vl_X1_104 h (fun F1 hg n => ct_X1_tick hg) ⟨Nat.le_of_ble_eq_true rfl, Nat.le_of_ble_eq_true rfl⟩ ⟨Nat.zero_le _, Nat.zero_le _⟩ (Nat.le_of_ble_eq_true rfl) (fun _ _ => rfl) rfl (fun F2 h => ?_)
      refine pw_iinc hO [(2, .int (v2 + 1)), (0, .ref v0), (1, .int v1)] dX1_elapse_11 2 rfl rfl (by decide) rfl ?_
      refine pw_goto (tgt := 2) hO dX1_elapse_14 (by decide) ?_
      refine pw_sub (lv1 := [(0, .ref v0), (1, .int v1), (2, .int (v2 + 1))]) [1, 2, 0] rfl ?_
      exact ih F2 v0 v1 ((v2 + 1)) h
def g_X1_elapse (F : Hp) (a0 : Nat) (a1 : Int32) : Option Hp := g_X1_elapse_b2 gF F a0 a1 0
set_option maxHeartbeats 4000000 in
theorem bl_X1_elapse {X : Cx} {F' : Hp} (hX : Md X cX1_elapse RX1 3 (rmd 3) none false none F') (F : Hp) (a0 : Nat) (a1 : Int32) (h : g_X1_elapse F a0 a1 = some F') : PW X 0 0 F 0 [(0, .ref a0), (1, .int a1)] [] := by
  have hO := hX.1
  unfold g_X1_elapse at h
  refine pw_iconst hO dX1_elapse_0 (v := 0) (by decide) ?_
  refine pw_istore_n hO [(2, .int 0), (0, .ref a0), (1, .int a1)] dX1_elapse_1 (by decide) rfl ?_
  refine pw_sub (lv1 := [(0, .ref a0), (1, .int a1), (2, .int 0)]) [1, 2, 0] rfl ?_
  exact bl_X1_elapse_b2 hX gF F a0 a1 0 h
theorem ct_X1_elapse {n : Nat} {F : Hp} {a0 : Nat} {a1 : Int32} {F' : Hp} (h : g_X1_elapse F a0 a1 = some F') : CT yX1_elapse cX1_elapse 3 none (rmd 3) n F [.ref a0, .int a1] none F' :=
  ct_intro (own := RX1) (nm := false) (by decide) rfl (fun h => by cases h) (Nat.le_of_ble_eq_true rfl) (fun X hn hX => bl_X1_elapse hX F a0 a1 h)
def g_X1_settle_b2 : Nat → Hp → Nat → Int32 → Option Hp
  | 0, _, _, _ => none
  | n + 1, F, v0, v1 => (if 99 ≤ v1 then some F else (ckO F v0 1 (bnd2 (g_X1_isAtRest F v0) fun x3 F2 => (if x3 = 0 then (ckO F2 v0 1 ((g_X1_tick F2 v0).bind fun F5 => g_X1_settle_b2 n F5 v0 ((v1 + 1)))) else some F2))))
set_option maxHeartbeats 4000000 in
theorem bl_X1_settle_b2 {X : Cx} {F' : Hp} (hX : Md X cX1_settle RX1 2 (rmd 3) none false none F') : ∀ (n : Nat) (F : Hp) (v0 : Nat) (v1 : Int32), g_X1_settle_b2 n F v0 v1 = some F' → PW X 0 0 F 2 [(0, .ref v0), (1, .int v1)] [] := by
  have hO := hX.1
  intro n
  induction n with
  | zero => intro F v0 v1 h; rw [g_X1_settle_b2] at h; cases h
  | succ n ih =>
    intro F v0 v1 h
    rw [g_X1_settle_b2] at h
    refine pw_iload_n hO dX1_settle_2 1 rfl ?_
    refine pw_bipush hO dX1_settle_3 (v := 99) (by decide) ?_
    refine pw_icmp_ge (tgt := 25) hO dX1_settle_5 (by decide) h (fun c1 h => ?_) (fun c1 h => ?_)
    · exact pw_vret hO hX.2 dX1_settle_25 h
    · refine pw_aload_n hO dX1_settle_8 0 rfl ?_
      refine pw_VI (a := v0) (ci := 1) (as := []) (st := []) (d := 1) hO [.ref v0] dX1_settle_9 vl_X1_107 h (fun r F1 hg n => ct_X1_isAtRest hg) ⟨Nat.le_of_ble_eq_true rfl, Nat.le_of_ble_eq_true rfl⟩ ⟨Nat.zero_le _, Nat.zero_le _⟩ (Nat.le_of_ble_eq_true rfl) (fun _ _ => rfl) rfl (fun x3 F2 h => ?_)
      refine pw_if_ne (tgt := 25) hO dX1_settle_12 (by decide) h (fun c4 h => ?_) (fun c4 h => ?_)
      · exact pw_vret hO hX.2 dX1_settle_25 h
      · refine pw_aload_n hO dX1_settle_15 0 rfl ?_
        refine pw_V0 (a := v0) (ci := 1) (as := []) (st := []) (d := 2) hO [.ref v0] dX1_settle_16 vl_X1_104 h (fun F1 hg n => ct_X1_tick hg) ⟨Nat.le_of_ble_eq_true rfl, Nat.le_of_ble_eq_true rfl⟩ ⟨Nat.zero_le _, Nat.zero_le _⟩ (Nat.le_of_ble_eq_true rfl) (fun _ _ => rfl) rfl (fun F5 h => ?_)
        refine pw_iinc hO [(1, .int (v1 + 1)), (0, .ref v0)] dX1_settle_19 1 rfl rfl (by decide) rfl ?_
        refine pw_goto (tgt := 2) hO dX1_settle_22 (by decide) ?_
        refine pw_sub (lv1 := [(0, .ref v0), (1, .int (v1 + 1))]) [1, 0] rfl ?_
        exact ih F5 v0 ((v1 + 1)) h
def g_X1_settle (F : Hp) (a0 : Nat) : Option Hp := g_X1_settle_b2 gF F a0 0
set_option maxHeartbeats 4000000 in
theorem bl_X1_settle {X : Cx} {F' : Hp} (hX : Md X cX1_settle RX1 2 (rmd 3) none false none F') (F : Hp) (a0 : Nat) (h : g_X1_settle F a0 = some F') : PW X 0 0 F 0 [(0, .ref a0)] [] := by
  have hO := hX.1
  unfold g_X1_settle at h
  refine pw_iconst hO dX1_settle_0 (v := 0) (by decide) ?_
  refine pw_istore_n hO [(1, .int 0), (0, .ref a0)] dX1_settle_1 (by decide) rfl ?_
  refine pw_sub (lv1 := [(0, .ref a0), (1, .int 0)]) [1, 0] rfl ?_
  exact bl_X1_settle_b2 hX gF F a0 0 h
theorem ct_X1_settle {n : Nat} {F : Hp} {a0 : Nat} {F' : Hp} (h : g_X1_settle F a0 = some F') : CT yX1_settle cX1_settle 2 none (rmd 3) n F [.ref a0] none F' :=
  ct_intro (own := RX1) (nm := false) (by decide) rfl (fun h => by cases h) (Nat.le_of_ble_eq_true rfl) (fun X hn hX => bl_X1_settle hX F a0 h)
def g_X1_admitsTicks (F : Hp) (a0 : Nat) (a1 : Int32) : Option (Int32 × Hp) := (bnd2 (g_X7_isWithin F a1 1 20) fun x2 F1 => (if x2 = 0 then some (0, F1) else (ckO F1 a0 1 ((g_X1_elapse F1 a0 a1).bind fun F4 => some (1, F4)))))
set_option maxHeartbeats 4000000 in
theorem bl_X1_admitsTicks {X : Cx} {rx : Int32} {F' : Hp} (hX : Md X cX1_admitsTicks RX1 2 (rmd 4) (some FieldType.boolean) false (some (.int rx)) F') (F : Hp) (a0 : Nat) (a1 : Int32) (h : g_X1_admitsTicks F a0 a1 = some (rx, F')) : PW X 0 0 F 0 [(0, .ref a0), (1, .int a1)] [] := by
  have hO := hX.1
  unfold g_X1_admitsTicks at h
  refine pw_iload_n hO dX1_admitsTicks_0 1 rfl ?_
  refine pw_iconst hO dX1_admitsTicks_1 (v := 1) (by decide) ?_
  refine pw_bipush hO dX1_admitsTicks_2 (v := 20) (by decide) ?_
  refine pw_NI (as := [.int a1, .int 1, .int 20]) (st := []) (d := 0) hO [.int 20, .int 1, .int a1] dX1_admitsTicks_4 nl_X1_136 h (fun r F1 hg n => ct_X7_isWithin hg) ⟨Nat.le_of_ble_eq_true rfl, Nat.le_of_ble_eq_true rfl⟩ ⟨Nat.zero_le _, Nat.zero_le _⟩ (Nat.le_of_ble_eq_true rfl) (fun _ _ => rfl) rfl (fun x2 F1 h => ?_)
  refine pw_if_ne (tgt := 12) hO dX1_admitsTicks_7 (by decide) h (fun c3 h => ?_) (fun c3 h => ?_)
  · refine pw_aload_n hO dX1_admitsTicks_12 0 rfl ?_
    refine pw_iload_n hO dX1_admitsTicks_13 1 rfl ?_
    refine pw_V0 (a := a0) (ci := 1) (as := [.int a1]) (st := []) (d := 3) hO [.int a1, .ref a0] dX1_admitsTicks_14 vl_X1_140 h (fun F1 hg n => ct_X1_elapse hg) ⟨Nat.le_of_ble_eq_true rfl, Nat.le_of_ble_eq_true rfl⟩ ⟨Nat.zero_le _, Nat.zero_le _⟩ (Nat.le_of_ble_eq_true rfl) (fun _ _ => rfl) rfl (fun F4 h => ?_)
    refine pw_iconst hO dX1_admitsTicks_17 (v := 1) (by decide) ?_
    exact pw_zretc hO hX.2 dX1_admitsTicks_18 (Or.inr rfl) h
  · refine pw_iconst hO dX1_admitsTicks_10 (v := 0) (by decide) ?_
    exact pw_zretc hO hX.2 dX1_admitsTicks_11 (Or.inl rfl) h
theorem ct_X1_admitsTicks {n : Nat} {F : Hp} {a0 : Nat} {a1 : Int32} {rx : Int32} {F' : Hp} (h : g_X1_admitsTicks F a0 a1 = some (rx, F')) : CT yX1_admitsTicks cX1_admitsTicks 2 (some FieldType.boolean) (rmd 4) n F [.ref a0, .int a1] (some (.int rx)) F' :=
  ct_intro (own := RX1) (nm := false) (by decide) rfl (fun h => by cases h) (Nat.le_of_ble_eq_true rfl) (fun X hn hX => bl_X1_admitsTicks hX F a0 a1 h)
def g_X1_admitsCount (F : Hp) (a0 : Nat) (a1 : Int32) (a2 : Int32) : Option (Int32 × Hp) := (bnd2 (g_X7_isFigure F a2) fun x2 F1 => (if x2 = 0 then some (0, F1) else (ckO F1 a0 1 (bnd2 (g_X1_side F1 a0 a1) fun q5 F4 => ((pV F4 q5 3 1 (.int a2)).bind fun F6 => some (1, F6))))))
set_option maxHeartbeats 4000000 in
theorem bl_X1_admitsCount {X : Cx} {rx : Int32} {F' : Hp} (hX : Md X cX1_admitsCount RX1 3 (rmd 1) (some FieldType.boolean) false (some (.int rx)) F') (F : Hp) (a0 : Nat) (a1 : Int32) (a2 : Int32) (h : g_X1_admitsCount F a0 a1 a2 = some (rx, F')) : PW X 0 0 F 0 [(0, .ref a0), (1, .int a1), (2, .int a2)] [] := by
  have hO := hX.1
  unfold g_X1_admitsCount at h
  refine pw_iload_n hO dX1_admitsCount_0 2 rfl ?_
  refine pw_NI (as := [.int a2]) (st := []) (d := 0) hO [.int a2] dX1_admitsCount_1 nl_X1_144 h (fun r F1 hg n => ct_X7_isFigure hg) ⟨Nat.le_of_ble_eq_true rfl, Nat.le_of_ble_eq_true rfl⟩ ⟨Nat.zero_le _, Nat.zero_le _⟩ (Nat.le_of_ble_eq_true rfl) (fun _ _ => rfl) rfl (fun x2 F1 h => ?_)
  refine pw_if_ne (tgt := 9) hO dX1_admitsCount_4 (by decide) h (fun c3 h => ?_) (fun c3 h => ?_)
  · refine pw_aload_n hO dX1_admitsCount_9 0 rfl ?_
    refine pw_iload_n hO dX1_admitsCount_10 1 rfl ?_
    refine pw_VR (a := a0) (ci := 1) (as := [.int a1]) (st := []) (d := 0) hO [.int a1, .ref a0] dX1_admitsCount_11 vl_X1_86 h (fun r F1 hg n => ct_X1_side hg) ⟨Nat.le_of_ble_eq_true rfl, Nat.le_of_ble_eq_true rfl⟩ ⟨Nat.zero_le _, Nat.zero_le _⟩ (Nat.le_of_ble_eq_true rfl) (fun _ _ => rfl) rfl (fun q5 F4 h => ?_)
    refine pw_iload_n hO dX1_admitsCount_14 2 rfl ?_
    refine pw_putI hO dX1_admitsCount_15 fp_X1_98 h (fun F6 h => ?_)
    refine pw_iconst hO dX1_admitsCount_18 (v := 1) (by decide) ?_
    exact pw_zretc hO hX.2 dX1_admitsCount_19 (Or.inr rfl) h
  · refine pw_iconst hO dX1_admitsCount_7 (v := 0) (by decide) ?_
    exact pw_zretc hO hX.2 dX1_admitsCount_8 (Or.inl rfl) h
theorem ct_X1_admitsCount {n : Nat} {F : Hp} {a0 : Nat} {a1 : Int32} {a2 : Int32} {rx : Int32} {F' : Hp} (h : g_X1_admitsCount F a0 a1 a2 = some (rx, F')) : CT yX1_admitsCount cX1_admitsCount 3 (some FieldType.boolean) (rmd 1) n F [.ref a0, .int a1, .int a2] (some (.int rx)) F' :=
  ct_intro (own := RX1) (nm := false) (by decide) rfl (fun h => by cases h) (Nat.le_of_ble_eq_true rfl) (fun X hn hX => bl_X1_admitsCount hX F a0 a1 a2 h)
def g_X1_admits_b168 (F : Hp) (s0 : Int32) (s1 : Int32) : Option (Int32 × Hp) := (if s0 = s1 then some (1, F) else some (0, F))
set_option maxHeartbeats 4000000 in
theorem bl_X1_admits_b168 {X : Cx} {rx : Int32} {F' : Hp} (hX : Md X cX1_admits RX1 5 (rmd 5) (some FieldType.boolean) false (some (.int rx)) F') (F : Hp) (s0 : Int32) (s1 : Int32) (h : g_X1_admits_b168 F s0 s1 = some (rx, F')) : PW X 0 0 F 168 [] [.int s1, .int s0] := by
  have hO := hX.1
  unfold g_X1_admits_b168 at h
  refine pw_icmp_ne (tgt := 175) hO dX1_admits_168 (by decide) h (fun c34 h => ?_) (fun c34 h => ?_)
  · refine pw_iconst hO dX1_admits_175 (v := 0) (by decide) ?_
    exact pw_zretc hO hX.2 dX1_admits_176 (Or.inl rfl) h
  · refine pw_iconst hO dX1_admits_171 (v := 1) (by decide) ?_
    refine pw_goto (tgt := 176) hO dX1_admits_172 (by decide) ?_
    exact pw_zretc hO hX.2 dX1_admits_176 (Or.inr rfl) h
def g_X1_admits (F : Hp) (a0 : Nat) (a1 : Int32) : Option (Int32 × Hp) := (if (a1 / 100) = 1 then (bnd2 (g_X7_isEnd F (jrem (a1 / 10) 10)) fun x3 F2 => (if x3 = 0 then some (0, F2) else (if (jrem a1 10) = 0 then (ckO F2 a0 1 (bnd2 (g_X1_receive F2 a0 (jrem (a1 / 10) 10) 0) fun x7 F6 => (if x7 = 0 then some (0, F6) else some (1, F6)))) else some (0, F2)))) else (if (a1 / 100) = 2 then (ckO F a0 1 (bnd2 (g_X1_admitsTicks F a0 (jrem a1 100)) fun x11 F10 => (if x11 = 0 ∨ x11 = 1 then some (x11, F10) else none))) else (if (a1 / 100) = 3 then (if (jrem (a1 / 10) 10) = 0 then ((gI F a0 1 5).bind fun x14 => (if x14 = (jrem a1 10) then some (1, F) else some (0, F))) else some (0, F)) else (if (a1 / 100) = 4 then (bnd2 (g_X7_isEnd F (jrem (a1 / 10) 10)) fun x18 F17 => (if x18 = 0 then some (0, F17) else (ckO F17 a0 1 (bnd2 (g_X1_side F17 a0 (jrem (a1 / 10) 10)) fun q21 F20 => ((gI F20 q21 3 4).bind fun x22 => (if x22 = (jrem a1 10) then some (1, F20) else some (0, F20))))))) else (if (a1 / 100) = 5 then (bnd2 (g_X7_isEnd F (jrem (a1 / 10) 10)) fun x26 F25 => (if x26 = 0 then some (0, F25) else (ckO F25 a0 1 (bnd2 (g_X1_side F25 a0 (jrem (a1 / 10) 10)) fun q29 F28 => ((gI F28 a0 1 8).bind fun x30 => (ckO F28 q29 3 (bnd2 (g_X3_isDue F28 q29 x30) fun x32 F31 => (if x32 = 0 then g_X1_admits_b168 F31 ((jrem a1 10)) 0 else g_X1_admits_b168 F31 ((jrem a1 10)) 1)))))))) else (if (a1 / 100) = 6 then ((gI F a0 1 10).bind fun x36 => (if x36 = (jrem a1 100) then some (1, F) else some (0, F))) else (if (a1 / 100) = 7 then (bnd2 (g_X7_isEnd F (jrem (a1 / 10) 10)) fun x40 F39 => (if x40 = 0 then some (0, F39) else (ckO F39 a0 1 (bnd2 (g_X1_admitsCount F39 a0 (jrem (a1 / 10) 10) (jrem a1 10)) fun x43 F42 => (if x43 = 0 then some (0, F42) else some (1, F42)))))) else some (0, F))))))))
set_option maxHeartbeats 4000000 in
theorem bl_X1_admits {X : Cx} {rx : Int32} {F' : Hp} (hX : Md X cX1_admits RX1 5 (rmd 5) (some FieldType.boolean) false (some (.int rx)) F') (F : Hp) (a0 : Nat) (a1 : Int32) (h : g_X1_admits F a0 a1 = some (rx, F')) : PW X 0 0 F 0 [(0, .ref a0), (1, .int a1)] [] := by
  have hO := hX.1
  unfold g_X1_admits at h
  refine pw_iload_n hO dX1_admits_0 1 rfl ?_
  refine pw_bipush hO dX1_admits_1 (v := 10) (by decide) ?_
  refine pw_idivc hO dX1_admits_3 (by decide) ?_
  refine pw_bipush hO dX1_admits_4 (v := 10) (by decide) ?_
  refine pw_iremc hO dX1_admits_6 (by decide) ?_
  refine pw_istore_n hO [(2, .int (jrem (a1 / 10) 10)), (0, .ref a0), (1, .int a1)] dX1_admits_7 (by decide) rfl ?_
  refine pw_iload_n hO dX1_admits_8 2 rfl ?_
  refine pw_bipush hO dX1_admits_9 (v := 10) (by decide) ?_
  refine pw_iremc hO dX1_admits_11 (by decide) ?_
  refine pw_istore_n hO [(3, .int (jrem a1 10)), (2, .int (jrem (a1 / 10) 10)), (0, .ref a0), (1, .int a1)] dX1_admits_12 (by decide) rfl ?_
  refine pw_iload_n hO dX1_admits_13 3 rfl ?_
  refine pw_bipush hO dX1_admits_14 (v := 100) (by decide) ?_
  refine pw_iremc hO dX1_admits_16 (by decide) ?_
  refine pw_istore hO [(4, .int (jrem a1 100)), (3, .int (jrem a1 10)), (2, .int (jrem (a1 / 10) 10)), (0, .ref a0), (1, .int a1)] dX1_admits_17 (by decide) rfl ?_
  refine pw_iload_n hO dX1_admits_19 4 rfl ?_
  refine pw_bipush hO dX1_admits_20 (v := 100) (by decide) ?_
  refine pw_idivc hO dX1_admits_22 (by decide) ?_
  refine pw_sw h (fun c1 h => ?_) (fun c1 h => ?_)
  · refine pw_tin (tgt := 64) hO dX1_admits_23 c1 (by decide) (by decide) (by rfl) (by decide) ?_
    refine pw_iload_n hO dX1_admits_64 2 rfl ?_
    refine pw_NI (as := [.int (jrem (a1 / 10) 10)]) (st := []) (d := 0) hO [.int (jrem (a1 / 10) 10)] dX1_admits_65 nl_X1_127 h (fun r F1 hg n => ct_X7_isEnd hg) ⟨Nat.le_of_ble_eq_true rfl, Nat.le_of_ble_eq_true rfl⟩ ⟨Nat.zero_le _, Nat.zero_le _⟩ (Nat.le_of_ble_eq_true rfl) (fun _ _ => rfl) rfl (fun x3 F2 h => ?_)
    refine pw_if_eq (tgt := 88) hO dX1_admits_68 (by decide) h (fun c4 h => ?_) (fun c4 h => ?_)
    · refine pw_iconst hO dX1_admits_88 (v := 0) (by decide) ?_
      exact pw_zretc hO hX.2 dX1_admits_89 (Or.inl rfl) h
    · refine pw_iload_n hO dX1_admits_71 1 rfl ?_
      refine pw_if_ne (tgt := 88) hO dX1_admits_72 (by decide) h (fun c5 h => ?_) (fun c5 h => ?_)
      · refine pw_iconst hO dX1_admits_88 (v := 0) (by decide) ?_
        exact pw_zretc hO hX.2 dX1_admits_89 (Or.inl rfl) h
      · refine pw_aload_n hO dX1_admits_75 3 rfl ?_
        refine pw_iload_n hO dX1_admits_76 2 rfl ?_
        refine pw_iconst hO dX1_admits_77 (v := 0) (by decide) ?_
        refine pw_VI (a := a0) (ci := 1) (as := [.int (jrem (a1 / 10) 10), .int 0]) (st := []) (d := 1) hO [.int 0, .int (jrem (a1 / 10) 10), .ref a0] dX1_admits_78 vl_X1_94 h (fun r F1 hg n => ct_X1_receive hg) ⟨Nat.le_of_ble_eq_true rfl, Nat.le_of_ble_eq_true rfl⟩ ⟨Nat.zero_le _, Nat.zero_le _⟩ (Nat.le_of_ble_eq_true rfl) (fun _ _ => rfl) rfl (fun x7 F6 h => ?_)
        refine pw_if_eq (tgt := 88) hO dX1_admits_81 (by decide) h (fun c8 h => ?_) (fun c8 h => ?_)
        · refine pw_iconst hO dX1_admits_88 (v := 0) (by decide) ?_
          exact pw_zretc hO hX.2 dX1_admits_89 (Or.inl rfl) h
        · refine pw_iconst hO dX1_admits_84 (v := 1) (by decide) ?_
          refine pw_goto (tgt := 89) hO dX1_admits_85 (by decide) ?_
          exact pw_zretc hO hX.2 dX1_admits_89 (Or.inr rfl) h
  refine pw_sw h (fun c9 h => ?_) (fun c9 h => ?_)
  · refine pw_tin (tgt := 90) hO dX1_admits_23 c9 (by decide) (by decide) (by rfl) (by decide) ?_
    refine pw_aload_n hO dX1_admits_90 3 rfl ?_
    refine pw_iload hO dX1_admits_91 0 rfl ?_
    refine pw_VI (a := a0) (ci := 1) (as := [.int (jrem a1 100)]) (st := []) (d := 4) hO [.int (jrem a1 100), .ref a0] dX1_admits_93 vl_X1_130 h (fun r F1 hg n => ct_X1_admitsTicks hg) ⟨Nat.le_of_ble_eq_true rfl, Nat.le_of_ble_eq_true rfl⟩ ⟨Nat.zero_le _, Nat.zero_le _⟩ (Nat.le_of_ble_eq_true rfl) (fun _ _ => rfl) rfl (fun x11 F10 h => ?_)
    exact pw_zret hO hX.2 dX1_admits_96 h
  refine pw_sw h (fun c12 h => ?_) (fun c12 h => ?_)
  · refine pw_tin (tgt := 97) hO dX1_admits_23 c12 (by decide) (by decide) (by rfl) (by decide) ?_
    refine pw_iload_n hO dX1_admits_97 2 rfl ?_
    refine pw_if_ne (tgt := 113) hO dX1_admits_98 (by decide) h (fun c13 h => ?_) (fun c13 h => ?_)
    · refine pw_iconst hO dX1_admits_113 (v := 0) (by decide) ?_
      exact pw_zretc hO hX.2 dX1_admits_114 (Or.inl rfl) h
    · refine pw_aload_n hO dX1_admits_101 3 rfl ?_
      refine pw_getI hO dX1_admits_102 fl_X1_32 h (fun x14 h => ?_)
      refine pw_iload_n hO dX1_admits_105 1 rfl ?_
      refine pw_icmp_ne (tgt := 113) hO dX1_admits_106 (by decide) h (fun c15 h => ?_) (fun c15 h => ?_)
      · refine pw_iconst hO dX1_admits_113 (v := 0) (by decide) ?_
        exact pw_zretc hO hX.2 dX1_admits_114 (Or.inl rfl) h
      · refine pw_iconst hO dX1_admits_109 (v := 1) (by decide) ?_
        refine pw_goto (tgt := 114) hO dX1_admits_110 (by decide) ?_
        exact pw_zretc hO hX.2 dX1_admits_114 (Or.inr rfl) h
  refine pw_sw h (fun c16 h => ?_) (fun c16 h => ?_)
  · refine pw_tin (tgt := 115) hO dX1_admits_23 c16 (by decide) (by decide) (by rfl) (by decide) ?_
    refine pw_iload_n hO dX1_admits_115 2 rfl ?_
    refine pw_NI (as := [.int (jrem (a1 / 10) 10)]) (st := []) (d := 0) hO [.int (jrem (a1 / 10) 10)] dX1_admits_116 nl_X1_127 h (fun r F1 hg n => ct_X7_isEnd hg) ⟨Nat.le_of_ble_eq_true rfl, Nat.le_of_ble_eq_true rfl⟩ ⟨Nat.zero_le _, Nat.zero_le _⟩ (Nat.le_of_ble_eq_true rfl) (fun _ _ => rfl) rfl (fun x18 F17 h => ?_)
    refine pw_if_eq (tgt := 138) hO dX1_admits_119 (by decide) h (fun c19 h => ?_) (fun c19 h => ?_)
    · refine pw_iconst hO dX1_admits_138 (v := 0) (by decide) ?_
      exact pw_zretc hO hX.2 dX1_admits_139 (Or.inl rfl) h
    · refine pw_aload_n hO dX1_admits_122 3 rfl ?_
      refine pw_iload_n hO dX1_admits_123 2 rfl ?_
      refine pw_VR (a := a0) (ci := 1) (as := [.int (jrem (a1 / 10) 10)]) (st := []) (d := 0) hO [.int (jrem (a1 / 10) 10), .ref a0] dX1_admits_124 vl_X1_86 h (fun r F1 hg n => ct_X1_side hg) ⟨Nat.le_of_ble_eq_true rfl, Nat.le_of_ble_eq_true rfl⟩ ⟨Nat.zero_le _, Nat.zero_le _⟩ (Nat.le_of_ble_eq_true rfl) (fun _ _ => rfl) rfl (fun q21 F20 h => ?_)
      refine pw_getI hO dX1_admits_127 fl_X1_79 h (fun x22 h => ?_)
      refine pw_iload_n hO dX1_admits_130 1 rfl ?_
      refine pw_icmp_ne (tgt := 138) hO dX1_admits_131 (by decide) h (fun c23 h => ?_) (fun c23 h => ?_)
      · refine pw_iconst hO dX1_admits_138 (v := 0) (by decide) ?_
        exact pw_zretc hO hX.2 dX1_admits_139 (Or.inl rfl) h
      · refine pw_iconst hO dX1_admits_134 (v := 1) (by decide) ?_
        refine pw_goto (tgt := 139) hO dX1_admits_135 (by decide) ?_
        exact pw_zretc hO hX.2 dX1_admits_139 (Or.inr rfl) h
  refine pw_sw h (fun c24 h => ?_) (fun c24 h => ?_)
  · refine pw_tin (tgt := 140) hO dX1_admits_23 c24 (by decide) (by decide) (by rfl) (by decide) ?_
    refine pw_iload_n hO dX1_admits_140 2 rfl ?_
    refine pw_NI (as := [.int (jrem (a1 / 10) 10)]) (st := []) (d := 0) hO [.int (jrem (a1 / 10) 10)] dX1_admits_141 nl_X1_127 h (fun r F1 hg n => ct_X7_isEnd hg) ⟨Nat.le_of_ble_eq_true rfl, Nat.le_of_ble_eq_true rfl⟩ ⟨Nat.zero_le _, Nat.zero_le _⟩ (Nat.le_of_ble_eq_true rfl) (fun _ _ => rfl) rfl (fun x26 F25 h => ?_)
    refine pw_if_eq (tgt := 175) hO dX1_admits_144 (by decide) h (fun c27 h => ?_) (fun c27 h => ?_)
    · refine pw_iconst hO dX1_admits_175 (v := 0) (by decide) ?_
      exact pw_zretc hO hX.2 dX1_admits_176 (Or.inl rfl) h
    · refine pw_iload_n hO dX1_admits_147 1 rfl ?_
      refine pw_aload_n hO dX1_admits_148 3 rfl ?_
      refine pw_iload_n hO dX1_admits_149 2 rfl ?_
      refine pw_VR (a := a0) (ci := 1) (as := [.int (jrem (a1 / 10) 10)]) (st := [.int (jrem a1 10)]) (d := 0) hO [.int (jrem (a1 / 10) 10), .ref a0, .int (jrem a1 10)] dX1_admits_150 vl_X1_86 h (fun r F1 hg n => ct_X1_side hg) ⟨Nat.le_of_ble_eq_true rfl, Nat.le_of_ble_eq_true rfl⟩ ⟨Nat.zero_le _, Nat.zero_le _⟩ (Nat.le_of_ble_eq_true rfl) (fun _ _ => rfl) rfl (fun q29 F28 h => ?_)
      refine pw_aload_n hO dX1_admits_153 3 rfl ?_
      refine pw_getI hO dX1_admits_154 fl_X1_41 h (fun x30 h => ?_)
      refine pw_VI (a := q29) (ci := 3) (as := [.int x30]) (st := [.int (jrem a1 10)]) (d := 0) hO [.int x30, .ref q29, .int (jrem a1 10)] dX1_admits_157 vl_X1_117 h (fun r F1 hg n => ct_X3_isDue hg) ⟨Nat.le_of_ble_eq_true rfl, Nat.le_of_ble_eq_true rfl⟩ ⟨Nat.zero_le _, Nat.zero_le _⟩ (Nat.le_of_ble_eq_true rfl) (fun _ _ => rfl) rfl (fun x32 F31 h => ?_)
      refine pw_if_eq (tgt := 167) hO dX1_admits_160 (by decide) h (fun c33 h => ?_) (fun c33 h => ?_)
      · refine pw_iconst hO dX1_admits_167 (v := 0) (by decide) ?_
        refine pw_sub (lv1 := []) [] rfl ?_
        exact bl_X1_admits_b168 hX F31 ((jrem a1 10)) 0 h
      · refine pw_iconst hO dX1_admits_163 (v := 1) (by decide) ?_
        refine pw_goto (tgt := 168) hO dX1_admits_164 (by decide) ?_
        refine pw_sub (lv1 := []) [] rfl ?_
        exact bl_X1_admits_b168 hX F31 ((jrem a1 10)) 1 h
  refine pw_sw h (fun c35 h => ?_) (fun c35 h => ?_)
  · refine pw_tin (tgt := 177) hO dX1_admits_23 c35 (by decide) (by decide) (by rfl) (by decide) ?_
    refine pw_aload_n hO dX1_admits_177 3 rfl ?_
    refine pw_getI hO dX1_admits_178 fl_X1_47 h (fun x36 h => ?_)
    refine pw_iload hO dX1_admits_181 0 rfl ?_
    refine pw_icmp_ne (tgt := 190) hO dX1_admits_183 (by decide) h (fun c37 h => ?_) (fun c37 h => ?_)
    · refine pw_iconst hO dX1_admits_190 (v := 0) (by decide) ?_
      exact pw_zretc hO hX.2 dX1_admits_191 (Or.inl rfl) h
    · refine pw_iconst hO dX1_admits_186 (v := 1) (by decide) ?_
      refine pw_goto (tgt := 191) hO dX1_admits_187 (by decide) ?_
      exact pw_zretc hO hX.2 dX1_admits_191 (Or.inr rfl) h
  refine pw_sw h (fun c38 h => ?_) (fun c38 h => ?_)
  · refine pw_tin (tgt := 192) hO dX1_admits_23 c38 (by decide) (by decide) (by rfl) (by decide) ?_
    refine pw_iload_n hO dX1_admits_192 2 rfl ?_
    refine pw_NI (as := [.int (jrem (a1 / 10) 10)]) (st := []) (d := 0) hO [.int (jrem (a1 / 10) 10)] dX1_admits_193 nl_X1_127 h (fun r F1 hg n => ct_X7_isEnd hg) ⟨Nat.le_of_ble_eq_true rfl, Nat.le_of_ble_eq_true rfl⟩ ⟨Nat.zero_le _, Nat.zero_le _⟩ (Nat.le_of_ble_eq_true rfl) (fun _ _ => rfl) rfl (fun x40 F39 h => ?_)
    refine pw_if_eq (tgt := 212) hO dX1_admits_196 (by decide) h (fun c41 h => ?_) (fun c41 h => ?_)
    · refine pw_iconst hO dX1_admits_212 (v := 0) (by decide) ?_
      exact pw_zretc hO hX.2 dX1_admits_213 (Or.inl rfl) h
    · refine pw_aload_n hO dX1_admits_199 3 rfl ?_
      refine pw_iload_n hO dX1_admits_200 2 rfl ?_
      refine pw_iload_n hO dX1_admits_201 1 rfl ?_
      refine pw_VI (a := a0) (ci := 1) (as := [.int (jrem (a1 / 10) 10), .int (jrem a1 10)]) (st := []) (d := 1) hO [.int (jrem a1 10), .int (jrem (a1 / 10) 10), .ref a0] dX1_admits_202 vl_X1_133 h (fun r F1 hg n => ct_X1_admitsCount hg) ⟨Nat.le_of_ble_eq_true rfl, Nat.le_of_ble_eq_true rfl⟩ ⟨Nat.zero_le _, Nat.zero_le _⟩ (Nat.le_of_ble_eq_true rfl) (fun _ _ => rfl) rfl (fun x43 F42 h => ?_)
      refine pw_if_eq (tgt := 212) hO dX1_admits_205 (by decide) h (fun c44 h => ?_) (fun c44 h => ?_)
      · refine pw_iconst hO dX1_admits_212 (v := 0) (by decide) ?_
        exact pw_zretc hO hX.2 dX1_admits_213 (Or.inl rfl) h
      · refine pw_iconst hO dX1_admits_208 (v := 1) (by decide) ?_
        refine pw_goto (tgt := 213) hO dX1_admits_209 (by decide) ?_
        exact pw_zretc hO hX.2 dX1_admits_213 (Or.inr rfl) h
  refine pw_tout (tgt := 214) hO dX1_admits_23 (by have e1 := lv_neT (a := 1) c1 (by decide); have e2 := lv_neT (a := 2) c9 (by decide); have e3 := lv_neT (a := 3) c12 (by decide); have e4 := lv_neT (a := 4) c16 (by decide); have e5 := lv_neT (a := 5) c24 (by decide); have e6 := lv_neT (a := 6) c35 (by decide); have e7 := lv_neT (a := 7) c38 (by decide); omega) (by decide) ?_
  refine pw_iconst hO dX1_admits_214 (v := 0) (by decide) ?_
  exact pw_zretc hO hX.2 dX1_admits_215 (Or.inl rfl) h
theorem ct_X1_admits {n : Nat} {F : Hp} {a0 : Nat} {a1 : Int32} {rx : Int32} {F' : Hp} (h : g_X1_admits F a0 a1 = some (rx, F')) : CT yX1_admits cX1_admits 5 (some FieldType.boolean) (rmd 5) n F [.ref a0, .int a1] (some (.int rx)) F' :=
  ct_intro (own := RX1) (nm := false) (by decide) rfl (fun h => by cases h) (Nat.le_of_ble_eq_true rfl) (fun X hn hX => bl_X1_admits hX F a0 a1 h)
