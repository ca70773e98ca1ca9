def g_X3_become_b42 : Nat → Hp → Nat → Nat → Int32 → Option Hp
  | 0, _, _, _, _ => none
  | n + 1, F, v0, v1, v2 => ((gI F v0 3 4).bind fun x11 => (if x11 ≤ v2 then some F else ((gR F v0 3 5).bind fun q13 => ((aN F q13).bind fun x14 => (if x14 ≤ v2 then some F else ((gR F v1 3 5).bind fun q16 => ((aN F q16).bind fun x17 => (if x17 ≤ v2 then some F else ((gR F v0 3 5).bind fun q19 => ((gR F v1 3 5).bind fun q20 => ((aI F q20 0 v2).bind fun x21 => ((sI F q19 0 v2 x21).bind fun F22 => g_X3_become_b42 n F22 v0 v1 ((v2 + 1))))))))))))))
set_option maxHeartbeats 4000000 in
theorem bl_X3_become_b42 {X : Cx} {F' : Hp} (hX : Md X cX3_become RX3 3 (rmd 0) none false none F') : ∀ (n : Nat) (F : Hp) (v0 : Nat) (v1 : Nat) (v2 : Int32), g_X3_become_b42 n F v0 v1 v2 = some F' → PW X 0 0 F 42 [(0, .ref v0), (1, .ref v1), (2, .int v2)] [] := by
  have hO := hX.1
  intro n
  induction n with
  | zero => intro F v0 v1 v2 h; rw [g_X3_become_b42] at h; cases h
  | succ n ih =>
    intro F v0 v1 v2 h
    rw [g_X3_become_b42] at h
    refine pw_iload_n hO dX3_become_42 2 rfl ?_
    refine pw_aload_n hO dX3_become_43 0 rfl ?_
    refine pw_getI hO dX3_become_44 fl_X3_24 h (fun x11 h => ?_)
    refine pw_icmp_ge (tgt := 86) hO dX3_become_47 (by decide) h (fun c12 h => ?_) (fun c12 h => ?_)
    · exact pw_vret hO hX.2 dX3_become_86 h
    · refine pw_iload_n hO dX3_become_50 2 rfl ?_
      refine pw_aload_n hO dX3_become_51 0 rfl ?_
      refine pw_getR hO dX3_become_52 fl_X3_27 h (fun q13 h => ?_)
      refine pw_alen hO dX3_become_55 h (fun x14 h => ?_)
      refine pw_icmp_ge (tgt := 86) hO dX3_become_56 (by decide) h (fun c15 h => ?_) (fun c15 h => ?_)
      · exact pw_vret hO hX.2 dX3_become_86 h
      · refine pw_iload_n hO dX3_become_59 2 rfl ?_
        refine pw_aload_n hO dX3_become_60 1 rfl ?_
        refine pw_getR hO dX3_become_61 fl_X3_27 h (fun q16 h => ?_)
        refine pw_alen hO dX3_become_64 h (fun x17 h => ?_)
        refine pw_icmp_ge (tgt := 86) hO dX3_become_65 (by decide) h (fun c18 h => ?_) (fun c18 h => ?_)
        · exact pw_vret hO hX.2 dX3_become_86 h
        · refine pw_aload_n hO dX3_become_68 0 rfl ?_
          refine pw_getR hO dX3_become_69 fl_X3_27 h (fun q19 h => ?_)
          refine pw_iload_n hO dX3_become_72 2 rfl ?_
          refine pw_aload_n hO dX3_become_73 1 rfl ?_
          refine pw_getR hO dX3_become_74 fl_X3_27 h (fun q20 h => ?_)
          refine pw_iload_n hO dX3_become_77 2 rfl ?_
          refine pw_iald hO dX3_become_78 h (fun x21 h => ?_)
          refine pw_iast hO dX3_become_79 h (fun F22 h => ?_)
          refine pw_iinc hO [(2, .int (v2 + 1)), (0, .ref v0), (1, .ref v1)] dX3_become_80 2 rfl rfl (by decide) rfl ?_
          refine pw_goto (tgt := 42) hO dX3_become_83 (by decide) ?_
          refine pw_sub (lv1 := [(0, .ref v0), (1, .ref v1), (2, .int (v2 + 1))]) [1, 2, 0] rfl ?_
          exact ih F22 v0 v1 ((v2 + 1)) h
def g_X3_become (F : Hp) (a0 : Nat) (a1 : Nat) : Option Hp := ((gI F a1 3 0).bind fun x1 => ((pV F a0 3 0 (.int x1)).bind fun F2 => ((gI F2 a1 3 1).bind fun x3 => ((pV F2 a0 3 1 (.int x3)).bind fun F4 => ((gI F4 a1 3 2).bind fun x5 => ((pV F4 a0 3 2 (.int x5)).bind fun F6 => ((gI F6 a1 3 3).bind fun x7 => ((pV F6 a0 3 3 (.int x7)).bind fun F8 => ((gI F8 a1 3 4).bind fun x9 => ((pV F8 a0 3 4 (.int x9)).bind fun F10 => g_X3_become_b42 gF F10 a0 a1 0))))))))))
set_option maxHeartbeats 4000000 in
theorem bl_X3_become {X : Cx} {F' : Hp} (hX : Md X cX3_become RX3 3 (rmd 0) none false none F') (F : Hp) (a0 : Nat) (a1 : Nat) (h : g_X3_become F a0 a1 = some F') : PW X 0 0 F 0 [(0, .ref a0), (1, .ref a1)] [] := by
  have hO := hX.1
  unfold g_X3_become at h
  refine pw_aload_n hO dX3_become_0 0 rfl ?_
  refine pw_aload_n hO dX3_become_1 1 rfl ?_
  refine pw_getI hO dX3_become_2 fl_X3_9 h (fun x1 h => ?_)
  refine pw_putI hO dX3_become_5 fp_X3_9 h (fun F2 h => ?_)
  refine pw_aload_n hO dX3_become_8 0 rfl ?_
  refine pw_aload_n hO dX3_become_9 1 rfl ?_
  refine pw_getI hO dX3_become_10 fl_X3_15 h (fun x3 h => ?_)
  refine pw_putI hO dX3_become_13 fp_X3_15 h (fun F4 h => ?_)
  refine pw_aload_n hO dX3_become_16 0 rfl ?_
  refine pw_aload_n hO dX3_become_17 1 rfl ?_
  refine pw_getI hO dX3_become_18 fl_X3_18 h (fun x5 h => ?_)
  refine pw_putI hO dX3_become_21 fp_X3_18 h (fun F6 h => ?_)
  refine pw_aload_n hO dX3_become_24 0 rfl ?_
  refine pw_aload_n hO dX3_become_25 1 rfl ?_
  refine pw_getI hO dX3_become_26 fl_X3_21 h (fun x7 h => ?_)
  refine pw_putI hO dX3_become_29 fp_X3_21 h (fun F8 h => ?_)
  refine pw_aload_n hO dX3_become_32 0 rfl ?_
  refine pw_aload_n hO dX3_become_33 1 rfl ?_
  refine pw_getI hO dX3_become_34 fl_X3_24 h (fun x9 h => ?_)
  refine pw_putI hO dX3_become_37 fp_X3_24 h (fun F10 h => ?_)
  refine pw_iconst hO dX3_become_40 (v := 0) (by decide) ?_
  refine pw_istore_n hO [(2, .int 0), (0, .ref a0), (1, .ref a1)] dX3_become_41 (by decide) rfl ?_
  refine pw_sub (lv1 := [(0, .ref a0), (1, .ref a1), (2, .int 0)]) [1, 2, 0] rfl ?_
  exact bl_X3_become_b42 hX gF F10 a0 a1 0 h
theorem ct_X3_become {n : Nat} {F : Hp} {a0 : Nat} {a1 : Nat} {F' : Hp} (h : g_X3_become F a0 a1 = some F') : CT yX3_become cX3_become 3 none (rmd 0) n F [.ref a0, .ref a1] none F' :=
  ct_intro (own := RX3) (nm := false) (by decide) rfl (fun h => by cases h) (Nat.le_of_ble_eq_true rfl) (fun X hn hX => bl_X3_become hX F a0 a1 h)
def g_X3_append (F : Hp) (a0 : Nat) (a1 : Int32) : Option (Int32 × Hp) := ((gI F a0 3 4).bind fun x1 => (if x1 < 0 then some (0, F) else ((gI F a0 3 4).bind fun x3 => ((gR F a0 3 5).bind fun q4 => ((aN F q4).bind fun x5 => (if x3 < x5 then ((gR F a0 3 5).bind fun q7 => ((gI F a0 3 4).bind fun x8 => ((sI F q7 0 x8 a1).bind fun F9 => ((gI F9 a0 3 4).bind fun x10 => ((pV F9 a0 3 4 (.int (x10 + 1))).bind fun F11 => some (1, F11)))))) else some (0, F)))))))
set_option maxHeartbeats 4000000 in
theorem bl_X3_append {X : Cx} {rx : Int32} {F' : Hp} (hX : Md X cX3_append RX3 2 (rmd 0) (some FieldType.boolean) false (some (.int rx)) F') (F : Hp) (a0 : Nat) (a1 : Int32) (h : g_X3_append F a0 a1 = some (rx, F')) : PW X 0 0 F 0 [(0, .ref a0), (1, .int a1)] [] := by
  have hO := hX.1
  unfold g_X3_append at h
  refine pw_aload_n hO dX3_append_0 0 rfl ?_
  refine pw_getI hO dX3_append_1 fl_X3_24 h (fun x1 h => ?_)
  refine pw_if_lt (tgt := 19) hO dX3_append_4 (by decide) h (fun c2 h => ?_) (fun c2 h => ?_)
  · refine pw_iconst hO dX3_append_19 (v := 0) (by decide) ?_
    exact pw_zretc hO hX.2 dX3_append_20 (Or.inl rfl) h
  · refine pw_aload_n hO dX3_append_7 0 rfl ?_
    refine pw_getI hO dX3_append_8 fl_X3_24 h (fun x3 h => ?_)
    refine pw_aload_n hO dX3_append_11 0 rfl ?_
    refine pw_getR hO dX3_append_12 fl_X3_27 h (fun q4 h => ?_)
    refine pw_alen hO dX3_append_15 h (fun x5 h => ?_)
    refine pw_icmp_lt (tgt := 21) hO dX3_append_16 (by decide) h (fun c6 h => ?_) (fun c6 h => ?_)
    · refine pw_aload_n hO dX3_append_21 0 rfl ?_
      refine pw_getR hO dX3_append_22 fl_X3_27 h (fun q7 h => ?_)
      refine pw_aload_n hO dX3_append_25 0 rfl ?_
      refine pw_getI hO dX3_append_26 fl_X3_24 h (fun x8 h => ?_)
      refine pw_iload_n hO dX3_append_29 1 rfl ?_
      refine pw_iast hO dX3_append_30 h (fun F9 h => ?_)
      refine pw_aload_n hO dX3_append_31 0 rfl ?_
      refine pw_dup hO dX3_append_32 rfl ?_
      refine pw_getI hO dX3_append_33 fl_X3_24 h (fun x10 h => ?_)
      refine pw_iconst hO dX3_append_36 (v := 1) (by decide) ?_
      refine pw_iadd hO dX3_append_37 ?_
      refine pw_putI hO dX3_append_38 fp_X3_24 h (fun F11 h => ?_)
      refine pw_iconst hO dX3_append_41 (v := 1) (by decide) ?_
      exact pw_zretc hO hX.2 dX3_append_42 (Or.inr rfl) h
    · refine pw_iconst hO dX3_append_19 (v := 0) (by decide) ?_
      exact pw_zretc hO hX.2 dX3_append_20 (Or.inl rfl) h
theorem ct_X3_append {n : Nat} {F : Hp} {a0 : Nat} {a1 : Int32} {rx : Int32} {F' : Hp} (h : g_X3_append F a0 a1 = some (rx, F')) : CT yX3_append cX3_append 2 (some FieldType.boolean) (rmd 0) n F [.ref a0, .int a1] (some (.int rx)) F' :=
  ct_intro (own := RX3) (nm := false) (by decide) rfl (fun h => by cases h) (Nat.le_of_ble_eq_true rfl) (fun X hn hX => bl_X3_append hX F a0 a1 h)
def g_X3_letterAt (F : Hp) (a0 : Nat) (a1 : Int32) : Option (Int32 × Hp) := (if a1 < 0 then some ((-9), F) else ((gI F a0 3 4).bind fun x2 => (if x2 ≤ a1 then some ((-9), F) else ((gR F a0 3 5).bind fun q4 => ((aN F q4).bind fun x5 => (if x5 ≤ a1 then some ((-9), F) else ((gR F a0 3 5).bind fun q7 => ((aI F q7 0 a1).bind fun x8 => some (x8, F)))))))))
set_option maxHeartbeats 4000000 in
theorem bl_X3_letterAt {X : Cx} {rx : Int32} {F' : Hp} (hX : Md X cX3_letterAt RX3 2 (rmd 0) (some FieldType.int) false (some (.int rx)) F') (F : Hp) (a0 : Nat) (a1 : Int32) (h : g_X3_letterAt F a0 a1 = some (rx, F')) : PW X 0 0 F 0 [(0, .ref a0), (1, .int a1)] [] := by
  have hO := hX.1
  unfold g_X3_letterAt at h
  refine pw_iload_n hO dX3_letterAt_0 1 rfl ?_
  refine pw_if_lt (tgt := 30) hO dX3_letterAt_1 (by decide) h (fun c1 h => ?_) (fun c1 h => ?_)
  · refine pw_bipush hO dX3_letterAt_30 (v := (-9)) (by decide) ?_
    exact pw_iret hO hX.2 dX3_letterAt_32 h
  · refine pw_iload_n hO dX3_letterAt_4 1 rfl ?_
    refine pw_aload_n hO dX3_letterAt_5 0 rfl ?_
    refine pw_getI hO dX3_letterAt_6 fl_X3_24 h (fun x2 h => ?_)
    refine pw_icmp_ge (tgt := 30) hO dX3_letterAt_9 (by decide) h (fun c3 h => ?_) (fun c3 h => ?_)
    · refine pw_bipush hO dX3_letterAt_30 (v := (-9)) (by decide) ?_
      exact pw_iret hO hX.2 dX3_letterAt_32 h
    · refine pw_iload_n hO dX3_letterAt_12 1 rfl ?_
      refine pw_aload_n hO dX3_letterAt_13 0 rfl ?_
      refine pw_getR hO dX3_letterAt_14 fl_X3_27 h (fun q4 h => ?_)
      refine pw_alen hO dX3_letterAt_17 h (fun x5 h => ?_)
      refine pw_icmp_ge (tgt := 30) hO dX3_letterAt_18 (by decide) h (fun c6 h => ?_) (fun c6 h => ?_)
      · refine pw_bipush hO dX3_letterAt_30 (v := (-9)) (by decide) ?_
        exact pw_iret hO hX.2 dX3_letterAt_32 h
      · refine pw_aload_n hO dX3_letterAt_21 0 rfl ?_
        refine pw_getR hO dX3_letterAt_22 fl_X3_27 h (fun q7 h => ?_)
        refine pw_iload_n hO dX3_letterAt_25 1 rfl ?_
        refine pw_iald hO dX3_letterAt_26 h (fun x8 h => ?_)
        refine pw_goto (tgt := 32) hO dX3_letterAt_27 (by decide) ?_
        exact pw_iret hO hX.2 dX3_letterAt_32 h
theorem ct_X3_letterAt {n : Nat} {F : Hp} {a0 : Nat} {a1 : Int32} {rx : Int32} {F' : Hp} (h : g_X3_letterAt F a0 a1 = some (rx, F')) : CT yX3_letterAt cX3_letterAt 2 (some FieldType.int) (rmd 0) n F [.ref a0, .int a1] (some (.int rx)) F' :=
  ct_intro (own := RX3) (nm := false) (by decide) rfl (fun h => by cases h) (Nat.le_of_ble_eq_true rfl) (fun X hn hX => bl_X3_letterAt hX F a0 a1 h)
def g_X3_dropFirst_b39 (F : Hp) (v0 : Nat) : Option Hp := ((gI F v0 3 4).bind fun x3 => (if x3 ≤ 0 then some F else ((gI F v0 3 4).bind fun x5 => ((pV F v0 3 4 (.int (x5 - 1))).bind fun F6 => some F6))))
set_option maxHeartbeats 4000000 in
theorem bl_X3_dropFirst_b39 {X : Cx} {F' : Hp} (hX : Md X cX3_dropFirst RX3 2 (rmd 0) none false none F') (F : Hp) (v0 : Nat) (h : g_X3_dropFirst_b39 F v0 = some F') : PW X 0 0 F 39 [(0, .ref v0)] [] := by
  have hO := hX.1
  unfold g_X3_dropFirst_b39 at h
  refine pw_aload_n hO dX3_dropFirst_39 0 rfl ?_
  refine pw_getI hO dX3_dropFirst_40 fl_X3_24 h (fun x3 h => ?_)
  refine pw_if_le (tgt := 56) hO dX3_dropFirst_43 (by decide) h (fun c4 h => ?_) (fun c4 h => ?_)
  · exact pw_vret hO hX.2 dX3_dropFirst_56 h
  · refine pw_aload_n hO dX3_dropFirst_46 0 rfl ?_
    refine pw_dup hO dX3_dropFirst_47 rfl ?_
    refine pw_getI hO dX3_dropFirst_48 fl_X3_24 h (fun x5 h => ?_)
    refine pw_iconst hO dX3_dropFirst_51 (v := 1) (by decide) ?_
    refine pw_isub hO dX3_dropFirst_52 ?_
    refine pw_putI hO dX3_dropFirst_53 fp_X3_24 h (fun F6 h => ?_)
    exact pw_vret hO hX.2 dX3_dropFirst_56 h
def g_X3_dropFirst_b2 : Nat → Hp → Nat → Int32 → Option Hp
  | 0, _, _, _ => none
  | n + 1, F, v0, v1 => ((gI F v0 3 4).bind fun x1 => (if x1 ≤ v1 then g_X3_dropFirst_b39 F v0 else ((gR F v0 3 5).bind fun q7 => ((aN F q7).bind fun x8 => (if x8 ≤ v1 then g_X3_dropFirst_b39 F v0 else ((gR F v0 3 5).bind fun q10 => ((gR F v0 3 5).bind fun q11 => ((aI F q11 0 v1).bind fun x12 => ((sI F q10 0 (v1 - 1) x12).bind fun F13 => g_X3_dropFirst_b2 n F13 v0 ((v1 + 1)))))))))))
set_option maxHeartbeats 4000000 in
theorem bl_X3_dropFirst_b2 {X : Cx} {F' : Hp} (hX : Md X cX3_dropFirst RX3 2 (rmd 0) none false none F') : ∀ (n : Nat) (F : Hp) (v0 : Nat) (v1 : Int32), g_X3_dropFirst_b2 n F v0 v1 = some F' → PW X 0 0 F 2 [(0, .ref v0), (1, .int v1)] [] := by
  have hO := hX.1
  intro n
  induction n with
  | zero => intro F v0 v1 h; rw [g_X3_dropFirst_b2] at h; cases h
  | succ n ih =>
    intro F v0 v1 h
    rw [g_X3_dropFirst_b2] at h
    refine pw_iload_n hO dX3_dropFirst_2 1 rfl ?_
    refine pw_aload_n hO dX3_dropFirst_3 0 rfl ?_
    refine pw_getI hO dX3_dropFirst_4 fl_X3_24 h (fun x1 h => ?_)
    refine pw_icmp_ge (tgt := 39) hO dX3_dropFirst_7 (by decide) h (fun c2 h => ?_) (fun c2 h => ?_)
    · refine pw_sub (lv1 := [(0, .ref v0)]) [0] rfl ?_
      exact bl_X3_dropFirst_b39 hX F v0 h
    · refine pw_iload_n hO dX3_dropFirst_10 1 rfl ?_
      refine pw_aload_n hO dX3_dropFirst_11 0 rfl ?_
      refine pw_getR hO dX3_dropFirst_12 fl_X3_27 h (fun q7 h => ?_)
      refine pw_alen hO dX3_dropFirst_15 h (fun x8 h => ?_)
      refine pw_icmp_ge (tgt := 39) hO dX3_dropFirst_16 (by decide) h (fun c9 h => ?_) (fun c9 h => ?_)
      · refine pw_sub (lv1 := [(0, .ref v0)]) [0] rfl ?_
        exact bl_X3_dropFirst_b39 hX F v0 h
      · refine pw_aload_n hO dX3_dropFirst_19 0 rfl ?_
        refine pw_getR hO dX3_dropFirst_20 fl_X3_27 h (fun q10 h => ?_)
        refine pw_iload_n hO dX3_dropFirst_23 1 rfl ?_
        refine pw_iconst hO dX3_dropFirst_24 (v := 1) (by decide) ?_
        refine pw_isub hO dX3_dropFirst_25 ?_
        refine pw_aload_n hO dX3_dropFirst_26 0 rfl ?_
        refine pw_getR hO dX3_dropFirst_27 fl_X3_27 h (fun q11 h => ?_)
        refine pw_iload_n hO dX3_dropFirst_30 1 rfl ?_
        refine pw_iald hO dX3_dropFirst_31 h (fun x12 h => ?_)
        refine pw_iast hO dX3_dropFirst_32 h (fun F13 h => ?_)
        refine pw_iinc hO [(1, .int (v1 + 1)), (0, .ref v0)] dX3_dropFirst_33 1 rfl rfl (by decide) rfl ?_
        refine pw_goto (tgt := 2) hO dX3_dropFirst_36 (by decide) ?_
        refine pw_sub (lv1 := [(0, .ref v0), (1, .int (v1 + 1))]) [1, 0] rfl ?_
        exact ih F13 v0 ((v1 + 1)) h
def g_X3_dropFirst (F : Hp) (a0 : Nat) : Option Hp := g_X3_dropFirst_b2 gF F a0 1
set_option maxHeartbeats 4000000 in
theorem bl_X3_dropFirst {X : Cx} {F' : Hp} (hX : Md X cX3_dropFirst RX3 2 (rmd 0) none false none F') (F : Hp) (a0 : Nat) (h : g_X3_dropFirst F a0 = some F') : PW X 0 0 F 0 [(0, .ref a0)] [] := by
  have hO := hX.1
  unfold g_X3_dropFirst at h
  refine pw_iconst hO dX3_dropFirst_0 (v := 1) (by decide) ?_
  refine pw_istore_n hO [(1, .int 1), (0, .ref a0)] dX3_dropFirst_1 (by decide) rfl ?_
  refine pw_sub (lv1 := [(0, .ref a0), (1, .int 1)]) [1, 0] rfl ?_
  exact bl_X3_dropFirst_b2 hX gF F a0 1 h
theorem ct_X3_dropFirst {n : Nat} {F : Hp} {a0 : Nat} {F' : Hp} (h : g_X3_dropFirst F a0 = some F') : CT yX3_dropFirst cX3_dropFirst 2 none (rmd 0) n F [.ref a0] none F' :=
  ct_intro (own := RX3) (nm := false) (by decide) rfl (fun h => by cases h) (Nat.le_of_ble_eq_true rfl) (fun X hn hX => bl_X3_dropFirst hX F a0 h)
def g_X3_isDue_b15 : Nat → Hp → Nat → Int32 → Int32 → Option (Int32 × Hp)
  | 0, _, _, _, _ => none
  | n + 1, F, v0, v1, v2 => ((gI F v0 3 4).bind fun x4 => (if x4 ≤ v2 then some (0, F) else ((gR F v0 3 5).bind fun q6 => ((aN F q6).bind fun x7 => (if x7 ≤ v2 then some (0, F) else ((gR F v0 3 5).bind fun q9 => ((aI F q9 0 v2).bind fun x10 => (if (jrem x10 10) = 0 then ((gI F v0 3 2).bind fun x12 => (if (v1 - (x10 / 10)) < x12 then g_X3_isDue_b15 n F v0 v1 ((v2 + 1)) else some (1, F))) else some (1, F)))))))))
set_option maxHeartbeats 4000000 in
theorem bl_X3_isDue_b15 {X : Cx} {rx : Int32} {F' : Hp} (hX : Md X cX3_isDue RX3 4 (rmd 0) (some FieldType.boolean) false (some (.int rx)) F') : ∀ (n : Nat) (F : Hp) (v0 : Nat) (v1 : Int32) (v2 : Int32), g_X3_isDue_b15 n F v0 v1 v2 = some (rx, F') → PW X 0 0 F 15 [(0, .ref v0), (1, .int v1), (2, .int v2)] [] := by
  have hO := hX.1
  intro n
  induction n with
  | zero => intro F v0 v1 v2 h; rw [g_X3_isDue_b15] at h; cases h
  | succ n ih =>
    intro F v0 v1 v2 h
    rw [g_X3_isDue_b15] at h
    refine pw_iload_n hO dX3_isDue_15 2 rfl ?_
    refine pw_aload_n hO dX3_isDue_16 0 rfl ?_
    refine pw_getI hO dX3_isDue_17 fl_X3_24 h (fun x4 h => ?_)
    refine pw_icmp_ge (tgt := 67) hO dX3_isDue_20 (by decide) h (fun c5 h => ?_) (fun c5 h => ?_)
    · refine pw_iconst hO dX3_isDue_67 (v := 0) (by decide) ?_
      exact pw_zretc hO hX.2 dX3_isDue_68 (Or.inl rfl) h
    · refine pw_iload_n hO dX3_isDue_23 2 rfl ?_
      refine pw_aload_n hO dX3_isDue_24 0 rfl ?_
      refine pw_getR hO dX3_isDue_25 fl_X3_27 h (fun q6 h => ?_)
      refine pw_alen hO dX3_isDue_28 h (fun x7 h => ?_)
      refine pw_icmp_ge (tgt := 67) hO dX3_isDue_29 (by decide) h (fun c8 h => ?_) (fun c8 h => ?_)
      · refine pw_iconst hO dX3_isDue_67 (v := 0) (by decide) ?_
        exact pw_zretc hO hX.2 dX3_isDue_68 (Or.inl rfl) h
      · refine pw_aload_n hO dX3_isDue_32 0 rfl ?_
        refine pw_getR hO dX3_isDue_33 fl_X3_27 h (fun q9 h => ?_)
        refine pw_iload_n hO dX3_isDue_36 2 rfl ?_
        refine pw_iald hO dX3_isDue_37 h (fun x10 h => ?_)
        refine pw_istore_n hO [(3, .int x10), (0, .ref v0), (1, .int v1), (2, .int v2)] dX3_isDue_38 (by decide) rfl ?_
        refine pw_iload_n hO dX3_isDue_39 0 rfl ?_
        refine pw_bipush hO dX3_isDue_40 (v := 10) (by decide) ?_
        refine pw_iremc hO dX3_isDue_42 (by decide) ?_
        refine pw_if_ne (tgt := 59) hO dX3_isDue_43 (by decide) h (fun c11 h => ?_) (fun c11 h => ?_)
        · refine pw_iconst hO dX3_isDue_59 (v := 1) (by decide) ?_
          exact pw_zretc hO hX.2 dX3_isDue_60 (Or.inr rfl) h
        · refine pw_iload_n hO dX3_isDue_46 2 rfl ?_
          refine pw_iload_n hO dX3_isDue_47 0 rfl ?_
          refine pw_bipush hO dX3_isDue_48 (v := 10) (by decide) ?_
          refine pw_idivc hO dX3_isDue_50 (by decide) ?_
          refine pw_isub hO dX3_isDue_51 ?_
          refine pw_aload_n hO dX3_isDue_52 1 rfl ?_
          refine pw_getI hO dX3_isDue_53 fl_X3_18 h (fun x12 h => ?_)
          refine pw_icmp_lt (tgt := 61) hO dX3_isDue_56 (by decide) h (fun c13 h => ?_) (fun c13 h => ?_)
          · refine pw_iinc hO [(2, .int (v2 + 1)), (3, .int x10), (0, .ref v0), (1, .int v1)] dX3_isDue_61 3 rfl rfl (by decide) rfl ?_
            refine pw_goto (tgt := 15) hO dX3_isDue_64 (by decide) ?_
            refine pw_sub (lv1 := [(0, .ref v0), (1, .int v1), (2, .int (v2 + 1))]) [2, 3, 0] rfl ?_
            exact ih F v0 v1 ((v2 + 1)) h
          · refine pw_iconst hO dX3_isDue_59 (v := 1) (by decide) ?_
            exact pw_zretc hO hX.2 dX3_isDue_60 (Or.inr rfl) h
def g_X3_isDue (F : Hp) (a0 : Nat) (a1 : Int32) : Option (Int32 × Hp) := ((gI F a0 3 4).bind fun x1 => ((gI F a0 3 1).bind fun x2 => (if x1 < x2 then g_X3_isDue_b15 gF F a0 a1 0 else some (1, F))))
set_option maxHeartbeats 4000000 in
theorem bl_X3_isDue {X : Cx} {rx : Int32} {F' : Hp} (hX : Md X cX3_isDue RX3 4 (rmd 0) (some FieldType.boolean) false (some (.int rx)) F') (F : Hp) (a0 : Nat) (a1 : Int32) (h : g_X3_isDue F a0 a1 = some (rx, F')) : PW X 0 0 F 0 [(0, .ref a0), (1, .int a1)] [] := by
  have hO := hX.1
  unfold g_X3_isDue at h
  refine pw_aload_n hO dX3_isDue_0 0 rfl ?_
  refine pw_getI hO dX3_isDue_1 fl_X3_24 h (fun x1 h => ?_)
  refine pw_aload_n hO dX3_isDue_4 0 rfl ?_
  refine pw_getI hO dX3_isDue_5 fl_X3_15 h (fun x2 h => ?_)
  refine pw_icmp_lt (tgt := 13) hO dX3_isDue_8 (by decide) h (fun c3 h => ?_) (fun c3 h => ?_)
  · refine pw_iconst hO dX3_isDue_13 (v := 0) (by decide) ?_
    refine pw_istore_n hO [(2, .int 0), (0, .ref a0), (1, .int a1)] dX3_isDue_14 (by decide) rfl ?_
    refine pw_sub (lv1 := [(0, .ref a0), (1, .int a1), (2, .int 0)]) [1, 2, 0] rfl ?_
    exact bl_X3_isDue_b15 hX gF F a0 a1 0 h
  · refine pw_iconst hO dX3_isDue_11 (v := 1) (by decide) ?_
    exact pw_zretc hO hX.2 dX3_isDue_12 (Or.inr rfl) h
theorem ct_X3_isDue {n : Nat} {F : Hp} {a0 : Nat} {a1 : Int32} {rx : Int32} {F' : Hp} (h : g_X3_isDue F a0 a1 = some (rx, F')) : CT yX3_isDue cX3_isDue 4 (some FieldType.boolean) (rmd 0) n F [.ref a0, .int a1] (some (.int rx)) F' :=
  ct_intro (own := RX3) (nm := false) (by decide) rfl (fun h => by cases h) (Nat.le_of_ble_eq_true rfl) (fun X hn hX => bl_X3_isDue hX F a0 a1 h)
def g_X7_isEnd_b9 (F : Hp) : Option (Int32 × Hp) := some (1, F)
set_option maxHeartbeats 4000000 in
theorem bl_X7_isEnd_b9 {X : Cx} {rx : Int32} {F' : Hp} (hX : Md X cX7_isEnd RX7 1 (rmd 0) (some FieldType.boolean) false (some (.int rx)) F') (F : Hp) (h : g_X7_isEnd_b9 F = some (rx, F')) : PW X 0 0 F 9 [] [] := by
  have hO := hX.1
  unfold g_X7_isEnd_b9 at h
  refine pw_iconst hO dX7_isEnd_9 (v := 1) (by decide) ?_
  refine pw_goto (tgt := 14) hO dX7_isEnd_10 (by decide) ?_
  exact pw_zretc hO hX.2 dX7_isEnd_14 (Or.inr rfl) h
def g_X7_isEnd (F : Hp) (a0 : Int32) : Option (Int32 × Hp) := (if a0 = 0 then g_X7_isEnd_b9 F else (if a0 = 1 then g_X7_isEnd_b9 F else some (0, F)))
set_option maxHeartbeats 4000000 in
theorem bl_X7_isEnd {X : Cx} {rx : Int32} {F' : Hp} (hX : Md X cX7_isEnd RX7 1 (rmd 0) (some FieldType.boolean) false (some (.int rx)) F') (F : Hp) (a0 : Int32) (h : g_X7_isEnd F a0 = some (rx, F')) : PW X 0 0 F 0 [(0, .int a0)] [] := by
  have hO := hX.1
  unfold g_X7_isEnd at h
  refine pw_iload_n hO dX7_isEnd_0 0 rfl ?_
  refine pw_if_eq (tgt := 9) hO dX7_isEnd_1 (by decide) h (fun c1 h => ?_) (fun c1 h => ?_)
  · refine pw_sub (lv1 := []) [] rfl ?_
    exact bl_X7_isEnd_b9 hX F h
  · refine pw_iload_n hO dX7_isEnd_4 0 rfl ?_
    refine pw_iconst hO dX7_isEnd_5 (v := 1) (by decide) ?_
    refine pw_icmp_ne (tgt := 13) hO dX7_isEnd_6 (by decide) h (fun c2 h => ?_) (fun c2 h => ?_)
    · refine pw_iconst hO dX7_isEnd_13 (v := 0) (by decide) ?_
      exact pw_zretc hO hX.2 dX7_isEnd_14 (Or.inl rfl) h
    · refine pw_sub (lv1 := []) [] rfl ?_
      exact bl_X7_isEnd_b9 hX F h
theorem ct_X7_isEnd {n : Nat} {F : Hp} {a0 : Int32} {rx : Int32} {F' : Hp} (h : g_X7_isEnd F a0 = some (rx, F')) : CT yX7_isEnd cX7_isEnd 1 (some FieldType.boolean) (rmd 0) n F [.int a0] (some (.int rx)) F' :=
  ct_intro (own := RX7) (nm := false) (by decide) rfl (fun h => by cases h) (Nat.le_of_ble_eq_true rfl) (fun X hn hX => bl_X7_isEnd hX F a0 h)
def g_X7_isWithin (F : Hp) (a0 : Int32) (a1 : Int32) (a2 : Int32) : Option (Int32 × Hp) := (if a0 < a1 then some (0, F) else (if a2 < a0 then some (0, F) else some (1, F)))
set_option maxHeartbeats 4000000 in
theorem bl_X7_isWithin {X : Cx} {rx : Int32} {F' : Hp} (hX : Md X cX7_isWithin RX7 3 (rmd 0) (some FieldType.boolean) false (some (.int rx)) F') (F : Hp) (a0 : Int32) (a1 : Int32) (a2 : Int32) (h : g_X7_isWithin F a0 a1 a2 = some (rx, F')) : PW X 0 0 F 0 [(0, .int a0), (1, .int a1), (2, .int a2)] [] := by
  have hO := hX.1
  unfold g_X7_isWithin at h
  refine pw_iload_n hO dX7_isWithin_0 0 rfl ?_
  refine pw_iload_n hO dX7_isWithin_1 1 rfl ?_
  refine pw_icmp_lt (tgt := 14) hO dX7_isWithin_2 (by decide) h (fun c1 h => ?_) (fun c1 h => ?_)
  · refine pw_iconst hO dX7_isWithin_14 (v := 0) (by decide) ?_
    exact pw_zretc hO hX.2 dX7_isWithin_15 (Or.inl rfl) h
  · refine pw_iload_n hO dX7_isWithin_5 0 rfl ?_
    refine pw_iload_n hO dX7_isWithin_6 2 rfl ?_
    refine pw_icmp_gt (tgt := 14) hO dX7_isWithin_7 (by decide) h (fun c2 h => ?_) (fun c2 h => ?_)
    · refine pw_iconst hO dX7_isWithin_14 (v := 0) (by decide) ?_
      exact pw_zretc hO hX.2 dX7_isWithin_15 (Or.inl rfl) h
    · refine pw_iconst hO dX7_isWithin_10 (v := 1) (by decide) ?_
      refine pw_goto (tgt := 15) hO dX7_isWithin_11 (by decide) ?_
      exact pw_zretc hO hX.2 dX7_isWithin_15 (Or.inr rfl) h
theorem ct_X7_isWithin {n : Nat} {F : Hp} {a0 : Int32} {a1 : Int32} {a2 : Int32} {rx : Int32} {F' : Hp} (h : g_X7_isWithin F a0 a1 a2 = some (rx, F')) : CT yX7_isWithin cX7_isWithin 3 (some FieldType.boolean) (rmd 0) n F [.int a0, .int a1, .int a2] (some (.int rx)) F' :=
  ct_intro (own := RX7) (nm := false) (by decide) rfl (fun h => by cases h) (Nat.le_of_ble_eq_true rfl) (fun X hn hX => bl_X7_isWithin hX F a0 a1 a2 h)
def g_X7_isFigure (F : Hp) (a0 : Int32) : Option (Int32 × Hp) := (if a0 < 1 then some (0, F) else (if 9 < a0 then some (0, F) else some (1, F)))
set_option maxHeartbeats 4000000 in
theorem bl_X7_isFigure {X : Cx} {rx : Int32} {F' : Hp} (hX : Md X cX7_isFigure RX7 1 (rmd 0) (some FieldType.boolean) false (some (.int rx)) F') (F : Hp) (a0 : Int32) (h : g_X7_isFigure F a0 = some (rx, F')) : PW X 0 0 F 0 [(0, .int a0)] [] := by
  have hO := hX.1
  unfold g_X7_isFigure at h
  refine pw_iload_n hO dX7_isFigure_0 0 rfl ?_
  refine pw_iconst hO dX7_isFigure_1 (v := 1) (by decide) ?_
  refine pw_icmp_lt (tgt := 15) hO dX7_isFigure_2 (by decide) h (fun c1 h => ?_) (fun c1 h => ?_)
  · refine pw_iconst hO dX7_isFigure_15 (v := 0) (by decide) ?_
    exact pw_zretc hO hX.2 dX7_isFigure_16 (Or.inl rfl) h
  · refine pw_iload_n hO dX7_isFigure_5 0 rfl ?_
    refine pw_bipush hO dX7_isFigure_6 (v := 9) (by decide) ?_
    refine pw_icmp_gt (tgt := 15) hO dX7_isFigure_8 (by decide) h (fun c2 h => ?_) (fun c2 h => ?_)
    · refine pw_iconst hO dX7_isFigure_15 (v := 0) (by decide) ?_
      exact pw_zretc hO hX.2 dX7_isFigure_16 (Or.inl rfl) h
    · refine pw_iconst hO dX7_isFigure_11 (v := 1) (by decide) ?_
      refine pw_goto (tgt := 16) hO dX7_isFigure_12 (by decide) ?_
      exact pw_zretc hO hX.2 dX7_isFigure_16 (Or.inr rfl) h
theorem ct_X7_isFigure {n : Nat} {F : Hp} {a0 : Int32} {rx : Int32} {F' : Hp} (h : g_X7_isFigure F a0 = some (rx, F')) : CT yX7_isFigure cX7_isFigure 1 (some FieldType.boolean) (rmd 0) n F [.int a0] (some (.int rx)) F' :=
  ct_intro (own := RX7) (nm := false) (by decide) rfl (fun h => by cases h) (Nat.le_of_ble_eq_true rfl) (fun X hn hX => bl_X7_isFigure hX F a0 h)
def g_X6_signAt (F : Hp) (a0 : Nat) (a1 : Int32) : Option (Int32 × Hp) := (if a1 < 0 then some (0, F) else ((gI F a0 6 1).bind fun x2 => (if x2 ≤ a1 then some (0, F) else ((gR F a0 6 0).bind fun q4 => ((aN F q4).bind fun x5 => (if x5 ≤ a1 then some (0, F) else ((gR F a0 6 0).bind fun q7 => ((aI F q7 0 a1).bind fun x8 => some (x8, F)))))))))
set_option maxHeartbeats 4000000 in
theorem bl_X6_signAt {X : Cx} {rx : Int32} {F' : Hp} (hX : Md X cX6_signAt RX6 2 (rmd 0) (some FieldType.int) false (some (.int rx)) F') (F : Hp) (a0 : Nat) (a1 : Int32) (h : g_X6_signAt F a0 a1 = some (rx, F')) : PW X 0 0 F 0 [(0, .ref a0), (1, .int a1)] [] := by
  have hO := hX.1
  unfold g_X6_signAt at h
  refine pw_iload_n hO dX6_signAt_0 1 rfl ?_
  refine pw_if_lt (tgt := 30) hO dX6_signAt_1 (by decide) h (fun c1 h => ?_) (fun c1 h => ?_)
  · refine pw_iconst hO dX6_signAt_30 (v := 0) (by decide) ?_
    exact pw_iret hO hX.2 dX6_signAt_31 h
  · refine pw_iload_n hO dX6_signAt_4 1 rfl ?_
    refine pw_aload_n hO dX6_signAt_5 0 rfl ?_
    refine pw_getI hO dX6_signAt_6 fl_X6_15 h (fun x2 h => ?_)
    refine pw_icmp_ge (tgt := 30) hO dX6_signAt_9 (by decide) h (fun c3 h => ?_) (fun c3 h => ?_)
    · refine pw_iconst hO dX6_signAt_30 (v := 0) (by decide) ?_
      exact pw_iret hO hX.2 dX6_signAt_31 h
    · refine pw_iload_n hO dX6_signAt_12 1 rfl ?_
      refine pw_aload_n hO dX6_signAt_13 0 rfl ?_
      refine pw_getR hO dX6_signAt_14 fl_X6_9 h (fun q4 h => ?_)
      refine pw_alen hO dX6_signAt_17 h (fun x5 h => ?_)
      refine pw_icmp_ge (tgt := 30) hO dX6_signAt_18 (by decide) h (fun c6 h => ?_) (fun c6 h => ?_)
      · refine pw_iconst hO dX6_signAt_30 (v := 0) (by decide) ?_
        exact pw_iret hO hX.2 dX6_signAt_31 h
      · refine pw_aload_n hO dX6_signAt_21 0 rfl ?_
        refine pw_getR hO dX6_signAt_22 fl_X6_9 h (fun q7 h => ?_)
        refine pw_iload_n hO dX6_signAt_25 1 rfl ?_
        refine pw_iald hO dX6_signAt_26 h (fun x8 h => ?_)
        refine pw_goto (tgt := 31) hO dX6_signAt_27 (by decide) ?_
        exact pw_iret hO hX.2 dX6_signAt_31 h
theorem ct_X6_signAt {n : Nat} {F : Hp} {a0 : Nat} {a1 : Int32} {rx : Int32} {F' : Hp} (h : g_X6_signAt F a0 a1 = some (rx, F')) : CT yX6_signAt cX6_signAt 2 (some FieldType.int) (rmd 0) n F [.ref a0, .int a1] (some (.int rx)) F' :=
  ct_intro (own := RX6) (nm := false) (by decide) rfl (fun h => by cases h) (Nat.le_of_ble_eq_true rfl) (fun X hn hX => bl_X6_signAt hX F a0 a1 h)
def g_X6_figureAt (F : Hp) (a0 : Nat) (a1 : Int32) : Option (Int32 × Hp) := (ckO F a0 6 (bnd2 (g_X6_signAt F a0 a1) fun x2 F1 => some ((x2 - 48), F1)))
set_option maxHeartbeats 4000000 in
theorem bl_X6_figureAt {X : Cx} {rx : Int32} {F' : Hp} (hX : Md X cX6_figureAt RX6 2 (rmd 1) (some FieldType.int) false (some (.int rx)) F') (F : Hp) (a0 : Nat) (a1 : Int32) (h : g_X6_figureAt F a0 a1 = some (rx, F')) : PW X 0 0 F 0 [(0, .ref a0), (1, .int a1)] [] := by
  have hO := hX.1
  unfold g_X6_figureAt at h
  refine pw_aload_n hO dX6_figureAt_0 0 rfl ?_
  refine pw_iload_n hO dX6_figureAt_1 1 rfl ?_
  refine pw_VI (a := a0) (ci := 6) (as := [.int a1]) (st := []) (d := 0) hO [.int a1, .ref a0] dX6_figureAt_2 vl_X6_19 h (fun r F1 hg n => ct_X6_signAt hg) ⟨Nat.le_of_ble_eq_true rfl, Nat.le_of_ble_eq_true rfl⟩ ⟨Nat.zero_le _, Nat.zero_le _⟩ (Nat.le_of_ble_eq_true rfl) (fun _ _ => rfl) rfl (fun x2 F1 h => ?_)
  refine pw_bipush hO dX6_figureAt_5 (v := 48) (by decide) ?_
  refine pw_isub hO dX6_figureAt_7 ?_
  exact pw_iret hO hX.2 dX6_figureAt_8 h
theorem ct_X6_figureAt {n : Nat} {F : Hp} {a0 : Nat} {a1 : Int32} {rx : Int32} {F' : Hp} (h : g_X6_figureAt F a0 a1 = some (rx, F')) : CT yX6_figureAt cX6_figureAt 2 (some FieldType.int) (rmd 1) n F [.ref a0, .int a1] (some (.int rx)) F' :=
  ct_intro (own := RX6) (nm := false) (by decide) rfl (fun h => by cases h) (Nat.le_of_ble_eq_true rfl) (fun X hn hX => bl_X6_figureAt hX F a0 a1 h)
def g_X3_isFull (F : Hp) (a0 : Nat) : Option (Int32 × Hp) := ((gI F a0 3 4).bind fun x1 => (if x1 < 9 then some (0, F) else some (1, F)))
set_option maxHeartbeats 4000000 in
theorem bl_X3_isFull {X : Cx} {rx : Int32} {F' : Hp} (hX : Md X cX3_isFull RX3 1 (rmd 0) (some FieldType.boolean) false (some (.int rx)) F') (F : Hp) (a0 : Nat) (h : g_X3_isFull F a0 = some (rx, F')) : PW X 0 0 F 0 [(0, .ref a0)] [] := by
  have hO := hX.1
  unfold g_X3_isFull at h
  refine pw_aload_n hO dX3_isFull_0 0 rfl ?_
  refine pw_getI hO dX3_isFull_1 fl_X3_24 h (fun x1 h => ?_)
  refine pw_bipush hO dX3_isFull_4 (v := 9) (by decide) ?_
  refine pw_icmp_lt (tgt := 13) hO dX3_isFull_6 (by decide) h (fun c2 h => ?_) (fun c2 h => ?_)
  · refine pw_iconst hO dX3_isFull_13 (v := 0) (by decide) ?_
    exact pw_zretc hO hX.2 dX3_isFull_14 (Or.inl rfl) h
  · refine pw_iconst hO dX3_isFull_9 (v := 1) (by decide) ?_
    refine pw_goto (tgt := 14) hO dX3_isFull_10 (by decide) ?_
    exact pw_zretc hO hX.2 dX3_isFull_14 (Or.inr rfl) h
theorem ct_X3_isFull {n : Nat} {F : Hp} {a0 : Nat} {rx : Int32} {F' : Hp} (h : g_X3_isFull F a0 = some (rx, F')) : CT yX3_isFull cX3_isFull 1 (some FieldType.boolean) (rmd 0) n F [.ref a0] (some (.int rx)) F' :=
  ct_intro (own := RX3) (nm := false) (by decide) rfl (fun h => by cases h) (Nat.le_of_ble_eq_true rfl) (fun X hn hX => bl_X3_isFull hX F a0 h)
def g_X4_add (F : Hp) (a0 : Nat) (a1 : Int32) (a2 : Int32) : Option (Int32 × Hp) := ((gI F a0 4 2).bind fun x1 => (if x1 < 0 then some (0, F) else ((gI F a0 4 2).bind fun x3 => ((gR F a0 4 0).bind fun q4 => ((aN F q4).bind fun x5 => (if x5 ≤ x3 then some (0, F) else ((gI F a0 4 2).bind fun x7 => ((gR F a0 4 1).bind fun q8 => ((aN F q8).bind fun x9 => (if x7 < x9 then ((gR F a0 4 0).bind fun q11 => ((gI F a0 4 2).bind fun x12 => ((sI F q11 0 x12 a1).bind fun F13 => ((gR F13 a0 4 1).bind fun q14 => ((gI F13 a0 4 2).bind fun x15 => ((sI F13 q14 0 x15 a2).bind fun F16 => ((gI F16 a0 4 2).bind fun x17 => ((pV F16 a0 4 2 (.int (x17 + 1))).bind fun F18 => some (1, F18))))))))) else some (0, F)))))))))))
set_option maxHeartbeats 4000000 in
theorem bl_X4_add {X : Cx} {rx : Int32} {F' : Hp} (hX : Md X cX4_add RX4 3 (rmd 0) (some FieldType.boolean) false (some (.int rx)) F') (F : Hp) (a0 : Nat) (a1 : Int32) (a2 : Int32) (h : g_X4_add F a0 a1 a2 = some (rx, F')) : PW X 0 0 F 0 [(0, .ref a0), (1, .int a1), (2, .int a2)] [] := by
  have hO := hX.1
  unfold g_X4_add at h
  refine pw_aload_n hO dX4_add_0 0 rfl ?_
  refine pw_getI hO dX4_add_1 fl_X4_18 h (fun x1 h => ?_)
  refine pw_if_lt (tgt := 31) hO dX4_add_4 (by decide) h (fun c2 h => ?_) (fun c2 h => ?_)
  · refine pw_iconst hO dX4_add_31 (v := 0) (by decide) ?_
    exact pw_zretc hO hX.2 dX4_add_32 (Or.inl rfl) h
  · refine pw_aload_n hO dX4_add_7 0 rfl ?_
    refine pw_getI hO dX4_add_8 fl_X4_18 h (fun x3 h => ?_)
    refine pw_aload_n hO dX4_add_11 0 rfl ?_
    refine pw_getR hO dX4_add_12 fl_X4_9 h (fun q4 h => ?_)
    refine pw_alen hO dX4_add_15 h (fun x5 h => ?_)
    refine pw_icmp_ge (tgt := 31) hO dX4_add_16 (by decide) h (fun c6 h => ?_) (fun c6 h => ?_)
    · refine pw_iconst hO dX4_add_31 (v := 0) (by decide) ?_
      exact pw_zretc hO hX.2 dX4_add_32 (Or.inl rfl) h
    · refine pw_aload_n hO dX4_add_19 0 rfl ?_
      refine pw_getI hO dX4_add_20 fl_X4_18 h (fun x7 h => ?_)
      refine pw_aload_n hO dX4_add_23 0 rfl ?_
      refine pw_getR hO dX4_add_24 fl_X4_15 h (fun q8 h => ?_)
      refine pw_alen hO dX4_add_27 h (fun x9 h => ?_)
      refine pw_icmp_lt (tgt := 33) hO dX4_add_28 (by decide) h (fun c10 h => ?_) (fun c10 h => ?_)
      · refine pw_aload_n hO dX4_add_33 0 rfl ?_
        refine pw_getR hO dX4_add_34 fl_X4_9 h (fun q11 h => ?_)
        refine pw_aload_n hO dX4_add_37 0 rfl ?_
        refine pw_getI hO dX4_add_38 fl_X4_18 h (fun x12 h => ?_)
        refine pw_iload_n hO dX4_add_41 1 rfl ?_
        refine pw_iast hO dX4_add_42 h (fun F13 h => ?_)
        refine pw_aload_n hO dX4_add_43 0 rfl ?_
        refine pw_getR hO dX4_add_44 fl_X4_15 h (fun q14 h => ?_)
        refine pw_aload_n hO dX4_add_47 0 rfl ?_
        refine pw_getI hO dX4_add_48 fl_X4_18 h (fun x15 h => ?_)
        refine pw_iload_n hO dX4_add_51 2 rfl ?_
        refine pw_iast hO dX4_add_52 h (fun F16 h => ?_)
        refine pw_aload_n hO dX4_add_53 0 rfl ?_
        refine pw_dup hO dX4_add_54 rfl ?_
        refine pw_getI hO dX4_add_55 fl_X4_18 h (fun x17 h => ?_)
        refine pw_iconst hO dX4_add_58 (v := 1) (by decide) ?_
        refine pw_iadd hO dX4_add_59 ?_
        refine pw_putI hO dX4_add_60 fp_X4_18 h (fun F18 h => ?_)
        refine pw_iconst hO dX4_add_63 (v := 1) (by decide) ?_
        exact pw_zretc hO hX.2 dX4_add_64 (Or.inr rfl) h
      · refine pw_iconst hO dX4_add_31 (v := 0) (by decide) ?_
        exact pw_zretc hO hX.2 dX4_add_32 (Or.inl rfl) h
theorem ct_X4_add {n : Nat} {F : Hp} {a0 : Nat} {a1 : Int32} {a2 : Int32} {rx : Int32} {F' : Hp} (h : g_X4_add F a0 a1 a2 = some (rx, F')) : CT yX4_add cX4_add 3 (some FieldType.boolean) (rmd 0) n F [.ref a0, .int a1, .int a2] (some (.int rx)) F' :=
  ct_intro (own := RX4) (nm := false) (by decide) rfl (fun h => by cases h) (Nat.le_of_ble_eq_true rfl) (fun X hn hX => bl_X4_add hX F a0 a1 a2 h)
def g_X4_timeAt (F : Hp) (a0 : Nat) (a1 : Int32) : Option (Int32 × Hp) := (if a1 < 0 then some (0, F) else ((gR F a0 4 0).bind fun q2 => ((aN F q2).bind fun x3 => (if x3 ≤ a1 then some (0, F) else ((gR F a0 4 0).bind fun q5 => ((aI F q5 0 a1).bind fun x6 => some (x6, F)))))))
set_option maxHeartbeats 4000000 in
theorem bl_X4_timeAt {X : Cx} {rx : Int32} {F' : Hp} (hX : Md X cX4_timeAt RX4 2 (rmd 0) (some FieldType.int) false (some (.int rx)) F') (F : Hp) (a0 : Nat) (a1 : Int32) (h : g_X4_timeAt F a0 a1 = some (rx, F')) : PW X 0 0 F 0 [(0, .ref a0), (1, .int a1)] [] := by
  have hO := hX.1
  unfold g_X4_timeAt at h
  refine pw_iload_n hO dX4_timeAt_0 1 rfl ?_
  refine pw_if_lt (tgt := 22) hO dX4_timeAt_1 (by decide) h (fun c1 h => ?_) (fun c1 h => ?_)
  · refine pw_iconst hO dX4_timeAt_22 (v := 0) (by decide) ?_
    exact pw_iret hO hX.2 dX4_timeAt_23 h
  · refine pw_iload_n hO dX4_timeAt_4 1 rfl ?_
    refine pw_aload_n hO dX4_timeAt_5 0 rfl ?_
    refine pw_getR hO dX4_timeAt_6 fl_X4_9 h (fun q2 h => ?_)
    refine pw_alen hO dX4_timeAt_9 h (fun x3 h => ?_)
    refine pw_icmp_ge (tgt := 22) hO dX4_timeAt_10 (by decide) h (fun c4 h => ?_) (fun c4 h => ?_)
    · refine pw_iconst hO dX4_timeAt_22 (v := 0) (by decide) ?_
      exact pw_iret hO hX.2 dX4_timeAt_23 h
    · refine pw_aload_n hO dX4_timeAt_13 0 rfl ?_
      refine pw_getR hO dX4_timeAt_14 fl_X4_9 h (fun q5 h => ?_)
      refine pw_iload_n hO dX4_timeAt_17 1 rfl ?_
      refine pw_iald hO dX4_timeAt_18 h (fun x6 h => ?_)
      refine pw_goto (tgt := 23) hO dX4_timeAt_19 (by decide) ?_
      exact pw_iret hO hX.2 dX4_timeAt_23 h
theorem ct_X4_timeAt {n : Nat} {F : Hp} {a0 : Nat} {a1 : Int32} {rx : Int32} {F' : Hp} (h : g_X4_timeAt F a0 a1 = some (rx, F')) : CT yX4_timeAt cX4_timeAt 2 (some FieldType.int) (rmd 0) n F [.ref a0, .int a1] (some (.int rx)) F' :=
  ct_intro (own := RX4) (nm := false) (by decide) rfl (fun h => by cases h) (Nat.le_of_ble_eq_true rfl) (fun X hn hX => bl_X4_timeAt hX F a0 a1 h)
def g_X4_phaseAt (F : Hp) (a0 : Nat) (a1 : Int32) : Option (Int32 × Hp) := (if a1 < 0 then some ((-9), F) else ((gR F a0 4 1).bind fun q2 => ((aN F q2).bind fun x3 => (if x3 ≤ a1 then some ((-9), F) else ((gR F a0 4 1).bind fun q5 => ((aI F q5 0 a1).bind fun x6 => some (x6, F)))))))
set_option maxHeartbeats 4000000 in
theorem bl_X4_phaseAt {X : Cx} {rx : Int32} {F' : Hp} (hX : Md X cX4_phaseAt RX4 2 (rmd 0) (some FieldType.int) false (some (.int rx)) F') (F : Hp) (a0 : Nat) (a1 : Int32) (h : g_X4_phaseAt F a0 a1 = some (rx, F')) : PW X 0 0 F 0 [(0, .ref a0), (1, .int a1)] [] := by
  have hO := hX.1
  unfold g_X4_phaseAt at h
  refine pw_iload_n hO dX4_phaseAt_0 1 rfl ?_
  refine pw_if_lt (tgt := 22) hO dX4_phaseAt_1 (by decide) h (fun c1 h => ?_) (fun c1 h => ?_)
  · refine pw_bipush hO dX4_phaseAt_22 (v := (-9)) (by decide) ?_
    exact pw_iret hO hX.2 dX4_phaseAt_24 h
  · refine pw_iload_n hO dX4_phaseAt_4 1 rfl ?_
    refine pw_aload_n hO dX4_phaseAt_5 0 rfl ?_
    refine pw_getR hO dX4_phaseAt_6 fl_X4_15 h (fun q2 h => ?_)
    refine pw_alen hO dX4_phaseAt_9 h (fun x3 h => ?_)
    refine pw_icmp_ge (tgt := 22) hO dX4_phaseAt_10 (by decide) h (fun c4 h => ?_) (fun c4 h => ?_)
    · refine pw_bipush hO dX4_phaseAt_22 (v := (-9)) (by decide) ?_
      exact pw_iret hO hX.2 dX4_phaseAt_24 h
    · refine pw_aload_n hO dX4_phaseAt_13 0 rfl ?_
      refine pw_getR hO dX4_phaseAt_14 fl_X4_15 h (fun q5 h => ?_)
      refine pw_iload_n hO dX4_phaseAt_17 1 rfl ?_
      refine pw_iald hO dX4_phaseAt_18 h (fun x6 h => ?_)
      refine pw_goto (tgt := 24) hO dX4_phaseAt_19 (by decide) ?_
      exact pw_iret hO hX.2 dX4_phaseAt_24 h
theorem ct_X4_phaseAt {n : Nat} {F : Hp} {a0 : Nat} {a1 : Int32} {rx : Int32} {F' : Hp} (h : g_X4_phaseAt F a0 a1 = some (rx, F')) : CT yX4_phaseAt cX4_phaseAt 2 (some FieldType.int) (rmd 0) n F [.ref a0, .int a1] (some (.int rx)) F' :=
  ct_intro (own := RX4) (nm := false) (by decide) rfl (fun h => by cases h) (Nat.le_of_ble_eq_true rfl) (fun X hn hX => bl_X4_phaseAt hX F a0 a1 h)
def g_X6_append (F : Hp) (a0 : Nat) (a1 : Int32) : Option (Int32 × Hp) := ((gI F a0 6 1).bind fun x1 => (if x1 < 0 then some (0, F) else ((gI F a0 6 1).bind fun x3 => ((gR F a0 6 0).bind fun q4 => ((aN F q4).bind fun x5 => (if x3 < x5 then ((gR F a0 6 0).bind fun q7 => ((gI F a0 6 1).bind fun x8 => ((sI F q7 0 x8 a1).bind fun F9 => ((gI F9 a0 6 1).bind fun x10 => ((pV F9 a0 6 1 (.int (x10 + 1))).bind fun F11 => some (1, F11)))))) else some (0, F)))))))
set_option maxHeartbeats 4000000 in
theorem bl_X6_append {X : Cx} {rx : Int32} {F' : Hp} (hX : Md X cX6_append RX6 2 (rmd 0) (some FieldType.boolean) false (some (.int rx)) F') (F : Hp) (a0 : Nat) (a1 : Int32) (h : g_X6_append F a0 a1 = some (rx, F')) : PW X 0 0 F 0 [(0, .ref a0), (1, .int a1)] [] := by
  have hO := hX.1
  unfold g_X6_append at h
  refine pw_aload_n hO dX6_append_0 0 rfl ?_
  refine pw_getI hO dX6_append_1 fl_X6_15 h (fun x1 h => ?_)
  refine pw_if_lt (tgt := 19) hO dX6_append_4 (by decide) h (fun c2 h => ?_) (fun c2 h => ?_)
  · refine pw_iconst hO dX6_append_19 (v := 0) (by decide) ?_
    exact pw_zretc hO hX.2 dX6_append_20 (Or.inl rfl) h
  · refine pw_aload_n hO dX6_append_7 0 rfl ?_
    refine pw_getI hO dX6_append_8 fl_X6_15 h (fun x3 h => ?_)
    refine pw_aload_n hO dX6_append_11 0 rfl ?_
    refine pw_getR hO dX6_append_12 fl_X6_9 h (fun q4 h => ?_)
    refine pw_alen hO dX6_append_15 h (fun x5 h => ?_)
    refine pw_icmp_lt (tgt := 21) hO dX6_append_16 (by decide) h (fun c6 h => ?_) (fun c6 h => ?_)
    · refine pw_aload_n hO dX6_append_21 0 rfl ?_
      refine pw_getR hO dX6_append_22 fl_X6_9 h (fun q7 h => ?_)
      refine pw_aload_n hO dX6_append_25 0 rfl ?_
      refine pw_getI hO dX6_append_26 fl_X6_15 h (fun x8 h => ?_)
      refine pw_iload_n hO dX6_append_29 1 rfl ?_
      refine pw_iast hO dX6_append_30 h (fun F9 h => ?_)
      refine pw_aload_n hO dX6_append_31 0 rfl ?_
      refine pw_dup hO dX6_append_32 rfl ?_
      refine pw_getI hO dX6_append_33 fl_X6_15 h (fun x10 h => ?_)
      refine pw_iconst hO dX6_append_36 (v := 1) (by decide) ?_
      refine pw_iadd hO dX6_append_37 ?_
      refine pw_putI hO dX6_append_38 fp_X6_15 h (fun F11 h => ?_)
      refine pw_iconst hO dX6_append_41 (v := 1) (by decide) ?_
      exact pw_zretc hO hX.2 dX6_append_42 (Or.inr rfl) h
    · refine pw_iconst hO dX6_append_19 (v := 0) (by decide) ?_
      exact pw_zretc hO hX.2 dX6_append_20 (Or.inl rfl) h
theorem ct_X6_append {n : Nat} {F : Hp} {a0 : Nat} {a1 : Int32} {rx : Int32} {F' : Hp} (h : g_X6_append F a0 a1 = some (rx, F')) : CT yX6_append cX6_append 2 (some FieldType.boolean) (rmd 0) n F [.ref a0, .int a1] (some (.int rx)) F' :=
  ct_intro (own := RX6) (nm := false) (by decide) rfl (fun h => by cases h) (Nat.le_of_ble_eq_true rfl) (fun X hn hX => bl_X6_append hX F a0 a1 h)
def g_X6_mayStand_b57 (F : Hp) : Option (Int32 × Hp) := some (1, F)
set_option maxHeartbeats 4000000 in
theorem bl_X6_mayStand_b57 {X : Cx} {rx : Int32} {F' : Hp} (hX : Md X cX6_mayStand RX6 2 (rmd 1) (some FieldType.boolean) false (some (.int rx)) F') (F : Hp) (h : g_X6_mayStand_b57 F = some (rx, F')) : PW X 0 0 F 57 [] [] := by
  have hO := hX.1
  unfold g_X6_mayStand_b57 at h
  refine pw_iconst hO dX6_mayStand_57 (v := 1) (by decide) ?_
  refine pw_goto (tgt := 62) hO dX6_mayStand_58 (by decide) ?_
  exact pw_zretc hO hX.2 dX6_mayStand_62 (Or.inr rfl) h
def g_X6_mayStand_b29 (F : Hp) (v0 : Int32) (v1 : Int32) : Option (Int32 × Hp) := (bnd2 (g_X7_isFigure F (v1 - 48)) fun x4 F3 => (if x4 = 0 then (if v0 < 9 then some (0, F3) else (if v1 = 97 then g_X6_mayStand_b57 F3 else (if v1 = 98 then g_X6_mayStand_b57 F3 else some (0, F3)))) else g_X6_mayStand_b57 F3))
set_option maxHeartbeats 4000000 in
theorem bl_X6_mayStand_b29 {X : Cx} {rx : Int32} {F' : Hp} (hX : Md X cX6_mayStand RX6 2 (rmd 1) (some FieldType.boolean) false (some (.int rx)) F') (F : Hp) (v0 : Int32) (v1 : Int32) (h : g_X6_mayStand_b29 F v0 v1 = some (rx, F')) : PW X 0 0 F 29 [(0, .int v0), (1, .int v1)] [] := by
  have hO := hX.1
  unfold g_X6_mayStand_b29 at h
  refine pw_iload_n hO dX6_mayStand_29 1 rfl ?_
  refine pw_bipush hO dX6_mayStand_30 (v := 48) (by decide) ?_
  refine pw_isub hO dX6_mayStand_32 ?_
  refine pw_NI (as := [.int (v1 - 48)]) (st := []) (d := 0) hO [.int (v1 - 48)] dX6_mayStand_33 nl_X6_27 h (fun r F1 hg n => ct_X7_isFigure hg) ⟨Nat.le_of_ble_eq_true rfl, Nat.le_of_ble_eq_true rfl⟩ ⟨Nat.zero_le _, Nat.zero_le _⟩ (Nat.le_of_ble_eq_true rfl) (fun _ _ => rfl) rfl (fun x4 F3 h => ?_)
  refine pw_if_ne (tgt := 57) hO dX6_mayStand_36 (by decide) h (fun c5 h => ?_) (fun c5 h => ?_)
  · refine pw_sub (lv1 := []) [] rfl ?_
    exact bl_X6_mayStand_b57 hX F3 h
  · refine pw_iload_n hO dX6_mayStand_39 0 rfl ?_
    refine pw_bipush hO dX6_mayStand_40 (v := 9) (by decide) ?_
    refine pw_icmp_lt (tgt := 61) hO dX6_mayStand_42 (by decide) h (fun c6 h => ?_) (fun c6 h => ?_)
    · refine pw_iconst hO dX6_mayStand_61 (v := 0) (by decide) ?_
      exact pw_zretc hO hX.2 dX6_mayStand_62 (Or.inl rfl) h
    · refine pw_iload_n hO dX6_mayStand_45 1 rfl ?_
      refine pw_bipush hO dX6_mayStand_46 (v := 97) (by decide) ?_
      refine pw_icmp_eq (tgt := 57) hO dX6_mayStand_48 (by decide) h (fun c7 h => ?_) (fun c7 h => ?_)
      · refine pw_sub (lv1 := []) [] rfl ?_
        exact bl_X6_mayStand_b57 hX F3 h
      · refine pw_iload_n hO dX6_mayStand_51 1 rfl ?_
        refine pw_bipush hO dX6_mayStand_52 (v := 98) (by decide) ?_
        refine pw_icmp_ne (tgt := 61) hO dX6_mayStand_54 (by decide) h (fun c8 h => ?_) (fun c8 h => ?_)
        · refine pw_iconst hO dX6_mayStand_61 (v := 0) (by decide) ?_
          exact pw_zretc hO hX.2 dX6_mayStand_62 (Or.inl rfl) h
        · refine pw_sub (lv1 := []) [] rfl ?_
          exact bl_X6_mayStand_b57 hX F3 h
def g_X6_mayStand (F : Hp) (a0 : Int32) (a1 : Int32) : Option (Int32 × Hp) := (if a0 = 0 then (if a1 = 76 then some (1, F) else some (0, F)) else (if a0 = 2 then (if a1 = 49 then some (0, F) else g_X6_mayStand_b29 F a0 a1) else g_X6_mayStand_b29 F a0 a1))
set_option maxHeartbeats 4000000 in
theorem bl_X6_mayStand {X : Cx} {rx : Int32} {F' : Hp} (hX : Md X cX6_mayStand RX6 2 (rmd 1) (some FieldType.boolean) false (some (.int rx)) F') (F : Hp) (a0 : Int32) (a1 : Int32) (h : g_X6_mayStand F a0 a1 = some (rx, F')) : PW X 0 0 F 0 [(0, .int a0), (1, .int a1)] [] := by
  have hO := hX.1
  unfold g_X6_mayStand at h
  refine pw_iload_n hO dX6_mayStand_0 0 rfl ?_
  refine pw_if_ne (tgt := 16) hO dX6_mayStand_1 (by decide) h (fun c1 h => ?_) (fun c1 h => ?_)
  · refine pw_iload_n hO dX6_mayStand_16 0 rfl ?_
    refine pw_iconst hO dX6_mayStand_17 (v := 2) (by decide) ?_
    refine pw_icmp_ne (tgt := 29) hO dX6_mayStand_18 (by decide) h (fun c2 h => ?_) (fun c2 h => ?_)
    · refine pw_sub (lv1 := [(0, .int a0), (1, .int a1)]) [0, 1] rfl ?_
      exact bl_X6_mayStand_b29 hX F a0 a1 h
    · refine pw_iload_n hO dX6_mayStand_21 1 rfl ?_
      refine pw_bipush hO dX6_mayStand_22 (v := 49) (by decide) ?_
      refine pw_icmp_ne (tgt := 29) hO dX6_mayStand_24 (by decide) h (fun c9 h => ?_) (fun c9 h => ?_)
      · refine pw_sub (lv1 := [(0, .int a0), (1, .int a1)]) [0, 1] rfl ?_
        exact bl_X6_mayStand_b29 hX F a0 a1 h
      · refine pw_iconst hO dX6_mayStand_27 (v := 0) (by decide) ?_
        exact pw_zretc hO hX.2 dX6_mayStand_28 (Or.inl rfl) h
  · refine pw_iload_n hO dX6_mayStand_4 1 rfl ?_
    refine pw_bipush hO dX6_mayStand_5 (v := 76) (by decide) ?_
    refine pw_icmp_ne (tgt := 14) hO dX6_mayStand_7 (by decide) h (fun c10 h => ?_) (fun c10 h => ?_)
    · refine pw_iconst hO dX6_mayStand_14 (v := 0) (by decide) ?_
      exact pw_zretc hO hX.2 dX6_mayStand_15 (Or.inl rfl) h
    · refine pw_iconst hO dX6_mayStand_10 (v := 1) (by decide) ?_
      refine pw_goto (tgt := 15) hO dX6_mayStand_11 (by decide) ?_
      exact pw_zretc hO hX.2 dX6_mayStand_15 (Or.inr rfl) h
theorem ct_X6_mayStand {n : Nat} {F : Hp} {a0 : Int32} {a1 : Int32} {rx : Int32} {F' : Hp} (h : g_X6_mayStand F a0 a1 = some (rx, F')) : CT yX6_mayStand cX6_mayStand 2 (some FieldType.boolean) (rmd 1) n F [.int a0, .int a1] (some (.int rx)) F' :=
  ct_intro (own := RX6) (nm := false) (by decide) rfl (fun h => by cases h) (Nat.le_of_ble_eq_true rfl) (fun X hn hX => bl_X6_mayStand hX F a0 a1 h)
def g_X6_faultPlace_b2 : Nat → Hp → Nat → Int32 → Option (Int32 × Hp)
  | 0, _, _, _ => none
  | n + 1, F, v0, v1 => ((gI F v0 6 1).bind fun x1 => (if x1 ≤ v1 then ((gI F v0 6 1).bind fun x3 => (if 9 ≤ x3 then some ((-9), F) else ((gI F v0 6 1).bind fun x5 => some (x5, F)))) else (ckO F v0 6 (bnd2 (g_X6_signAt F v0 v1) fun x7 F6 => (bnd2 (g_X6_mayStand F6 v1 x7) fun x9 F8 => (if x9 = 0 then some (v1, F8) else g_X6_faultPlace_b2 n F8 v0 ((v1 + 1))))))))
set_option maxHeartbeats 4000000 in
theorem bl_X6_faultPlace_b2 {X : Cx} {rx : Int32} {F' : Hp} (hX : Md X cX6_faultPlace RX6 2 (rmd 2) (some FieldType.int) false (some (.int rx)) F') : ∀ (n : Nat) (F : Hp) (v0 : Nat) (v1 : Int32), g_X6_faultPlace_b2 n F v0 v1 = some (rx, F') → PW X 0 0 F 2 [(0, .ref v0), (1, .int v1)] [] := by
  have hO := hX.1
  intro n
  induction n with
  | zero => intro F v0 v1 h; rw [g_X6_faultPlace_b2] at h; cases h
  | succ n ih =>
    intro F v0 v1 h
    rw [g_X6_faultPlace_b2] at h
    refine pw_iload_n hO dX6_faultPlace_2 1 rfl ?_
    refine pw_aload_n hO dX6_faultPlace_3 0 rfl ?_
    refine pw_getI hO dX6_faultPlace_4 fl_X6_15 h (fun x1 h => ?_)
    refine pw_icmp_ge (tgt := 30) hO dX6_faultPlace_7 (by decide) h (fun c2 h => ?_) (fun c2 h => ?_)
    · refine pw_aload_n hO dX6_faultPlace_30 0 rfl ?_
      refine pw_getI hO dX6_faultPlace_31 fl_X6_15 h (fun x3 h => ?_)
      refine pw_bipush hO dX6_faultPlace_34 (v := 9) (by decide) ?_
      refine pw_icmp_ge (tgt := 46) hO dX6_faultPlace_36 (by decide) h (fun c4 h => ?_) (fun c4 h => ?_)
      · refine pw_bipush hO dX6_faultPlace_46 (v := (-9)) (by decide) ?_
        exact pw_iret hO hX.2 dX6_faultPlace_48 h
      · refine pw_aload_n hO dX6_faultPlace_39 0 rfl ?_
        refine pw_getI hO dX6_faultPlace_40 fl_X6_15 h (fun x5 h => ?_)
        refine pw_goto (tgt := 48) hO dX6_faultPlace_43 (by decide) ?_
        exact pw_iret hO hX.2 dX6_faultPlace_48 h
    · refine pw_iload_n hO dX6_faultPlace_10 1 rfl ?_
      refine pw_aload_n hO dX6_faultPlace_11 0 rfl ?_
      refine pw_iload_n hO dX6_faultPlace_12 1 rfl ?_
      refine pw_VI (a := v0) (ci := 6) (as := [.int v1]) (st := [.int v1]) (d := 0) hO [.int v1, .ref v0, .int v1] dX6_faultPlace_13 vl_X6_19 h (fun r F1 hg n => ct_X6_signAt hg) ⟨Nat.le_of_ble_eq_true rfl, Nat.le_of_ble_eq_true rfl⟩ ⟨Nat.zero_le _, Nat.zero_le _⟩ (Nat.le_of_ble_eq_true rfl) (fun _ _ => rfl) rfl (fun x7 F6 h => ?_)
      refine pw_SI (as := [.int v1, .int x7]) (st := []) (d := 1) hO [.int x7, .int v1] dX6_faultPlace_16 sl_X6_23 h (fun r F1 hg n => ct_X6_mayStand hg) ⟨Nat.le_of_ble_eq_true rfl, Nat.le_of_ble_eq_true rfl⟩ ⟨Nat.zero_le _, Nat.zero_le _⟩ (Nat.le_of_ble_eq_true rfl) (fun _ _ => rfl) rfl (fun x9 F8 h => ?_)
      refine pw_if_ne (tgt := 24) hO dX6_faultPlace_19 (by decide) h (fun c10 h => ?_) (fun c10 h => ?_)
      · refine pw_iinc hO [(1, .int (v1 + 1)), (0, .ref v0)] dX6_faultPlace_24 1 rfl rfl (by decide) rfl ?_
        refine pw_goto (tgt := 2) hO dX6_faultPlace_27 (by decide) ?_
        refine pw_sub (lv1 := [(0, .ref v0), (1, .int (v1 + 1))]) [1, 0] rfl ?_
        exact ih F8 v0 ((v1 + 1)) h
      · refine pw_iload_n hO dX6_faultPlace_22 1 rfl ?_
        exact pw_iret hO hX.2 dX6_faultPlace_23 h
def g_X6_faultPlace (F : Hp) (a0 : Nat) : Option (Int32 × Hp) := g_X6_faultPlace_b2 gF F a0 0
set_option maxHeartbeats 4000000 in
theorem bl_X6_faultPlace {X : Cx} {rx : Int32} {F' : Hp} (hX : Md X cX6_faultPlace RX6 2 (rmd 2) (some FieldType.int) false (some (.int rx)) F') (F : Hp) (a0 : Nat) (h : g_X6_faultPlace F a0 = some (rx, F')) : PW X 0 0 F 0 [(0, .ref a0)] [] := by
  have hO := hX.1
  unfold g_X6_faultPlace at h
  refine pw_iconst hO dX6_faultPlace_0 (v := 0) (by decide) ?_
  refine pw_istore_n hO [(1, .int 0), (0, .ref a0)] dX6_faultPlace_1 (by decide) rfl ?_
  refine pw_sub (lv1 := [(0, .ref a0), (1, .int 0)]) [1, 0] rfl ?_
  exact bl_X6_faultPlace_b2 hX gF F a0 0 h
theorem ct_X6_faultPlace {n : Nat} {F : Hp} {a0 : Nat} {rx : Int32} {F' : Hp} (h : g_X6_faultPlace F a0 = some (rx, F')) : CT yX6_faultPlace cX6_faultPlace 2 (some FieldType.int) (rmd 2) n F [.ref a0] (some (.int rx)) F' :=
  ct_intro (own := RX6) (nm := false) (by decide) rfl (fun h => by cases h) (Nat.le_of_ble_eq_true rfl) (fun X hn hX => bl_X6_faultPlace hX F a0 h)
def g_J6_bitCount_0f7a4 (F : Hp) (a0 : Int32) : Option (Int32 × Hp) := some (((((((((a0 - ((jushr a0 1) &&& 1431655765)) &&& 858993459) + ((jushr (a0 - ((jushr a0 1) &&& 1431655765)) 2) &&& 858993459)) + (jushr (((a0 - ((jushr a0 1) &&& 1431655765)) &&& 858993459) + ((jushr (a0 - ((jushr a0 1) &&& 1431655765)) 2) &&& 858993459)) 4)) &&& 252645135) + (jushr (((((a0 - ((jushr a0 1) &&& 1431655765)) &&& 858993459) + ((jushr (a0 - ((jushr a0 1) &&& 1431655765)) 2) &&& 858993459)) + (jushr (((a0 - ((jushr a0 1) &&& 1431655765)) &&& 858993459) + ((jushr (a0 - ((jushr a0 1) &&& 1431655765)) 2) &&& 858993459)) 4)) &&& 252645135) 8)) + (jushr ((((((a0 - ((jushr a0 1) &&& 1431655765)) &&& 858993459) + ((jushr (a0 - ((jushr a0 1) &&& 1431655765)) 2) &&& 858993459)) + (jushr (((a0 - ((jushr a0 1) &&& 1431655765)) &&& 858993459) + ((jushr (a0 - ((jushr a0 1) &&& 1431655765)) 2) &&& 858993459)) 4)) &&& 252645135) + (jushr (((((a0 - ((jushr a0 1) &&& 1431655765)) &&& 858993459) + ((jushr (a0 - ((jushr a0 1) &&& 1431655765)) 2) &&& 858993459)) + (jushr (((a0 - ((jushr a0 1) &&& 1431655765)) &&& 858993459) + ((jushr (a0 - ((jushr a0 1) &&& 1431655765)) 2) &&& 858993459)) 4)) &&& 252645135) 8)) 16)) &&& 63), F)
set_option maxHeartbeats 4000000 in
theorem bl_J6_bitCount_0f7a4 {X : Cx} {rx : Int32} {F' : Hp} (hX : Md X cJ6_bitCount_0f7a4 RJ6 1 (rmd 0) (some FieldType.int) false (some (.int rx)) F') (F : Hp) (a0 : Int32) (h : g_J6_bitCount_0f7a4 F a0 = some (rx, F')) : PW X 0 0 F 0 [(0, .int a0)] [] := by
  have hO := hX.1
  unfold g_J6_bitCount_0f7a4 at h
  refine pw_iload_n hO dJ6_bitCount_0f7a4_0 0 rfl ?_
  refine pw_iload_n hO dJ6_bitCount_0f7a4_1 0 rfl ?_
  refine pw_iconst hO dJ6_bitCount_0f7a4_2 (v := 1) (by decide) ?_
  refine pw_iushr hO dJ6_bitCount_0f7a4_3 ?_
  refine pw_ldcw hO dJ6_bitCount_0f7a4_4 ki_J6_265 ?_
  refine pw_iand hO dJ6_bitCount_0f7a4_7 ?_
  refine pw_isub hO dJ6_bitCount_0f7a4_8 ?_
  refine pw_istore_n hO [(0, .int (a0 - ((jushr a0 1) &&& 1431655765)))] dJ6_bitCount_0f7a4_9 (by decide) rfl ?_
  refine pw_iload_n hO dJ6_bitCount_0f7a4_10 0 rfl ?_
  refine pw_ldcw hO dJ6_bitCount_0f7a4_11 ki_J6_266 ?_
  refine pw_iand hO dJ6_bitCount_0f7a4_14 ?_
  refine pw_iload_n hO dJ6_bitCount_0f7a4_15 0 rfl ?_
  refine pw_iconst hO dJ6_bitCount_0f7a4_16 (v := 2) (by decide) ?_
  refine pw_iushr hO dJ6_bitCount_0f7a4_17 ?_
  refine pw_ldcw hO dJ6_bitCount_0f7a4_18 ki_J6_266 ?_
  refine pw_iand hO dJ6_bitCount_0f7a4_21 ?_
  refine pw_iadd hO dJ6_bitCount_0f7a4_22 ?_
  refine pw_istore_n hO [(0, .int (((a0 - ((jushr a0 1) &&& 1431655765)) &&& 858993459) + ((jushr (a0 - ((jushr a0 1) &&& 1431655765)) 2) &&& 858993459)))] dJ6_bitCount_0f7a4_23 (by decide) rfl ?_
  refine pw_iload_n hO dJ6_bitCount_0f7a4_24 0 rfl ?_
  refine pw_iload_n hO dJ6_bitCount_0f7a4_25 0 rfl ?_
  refine pw_iconst hO dJ6_bitCount_0f7a4_26 (v := 4) (by decide) ?_
  refine pw_iushr hO dJ6_bitCount_0f7a4_27 ?_
  refine pw_iadd hO dJ6_bitCount_0f7a4_28 ?_
  refine pw_ldcw hO dJ6_bitCount_0f7a4_29 ki_J6_267 ?_
  refine pw_iand hO dJ6_bitCount_0f7a4_32 ?_
  refine pw_istore_n hO [(0, .int (((((a0 - ((jushr a0 1) &&& 1431655765)) &&& 858993459) + ((jushr (a0 - ((jushr a0 1) &&& 1431655765)) 2) &&& 858993459)) + (jushr (((a0 - ((jushr a0 1) &&& 1431655765)) &&& 858993459) + ((jushr (a0 - ((jushr a0 1) &&& 1431655765)) 2) &&& 858993459)) 4)) &&& 252645135))] dJ6_bitCount_0f7a4_33 (by decide) rfl ?_
  refine pw_iload_n hO dJ6_bitCount_0f7a4_34 0 rfl ?_
  refine pw_iload_n hO dJ6_bitCount_0f7a4_35 0 rfl ?_
  refine pw_bipush hO dJ6_bitCount_0f7a4_36 (v := 8) (by decide) ?_
  refine pw_iushr hO dJ6_bitCount_0f7a4_38 ?_
  refine pw_iadd hO dJ6_bitCount_0f7a4_39 ?_
  refine pw_istore_n hO [(0, .int ((((((a0 - ((jushr a0 1) &&& 1431655765)) &&& 858993459) + ((jushr (a0 - ((jushr a0 1) &&& 1431655765)) 2) &&& 858993459)) + (jushr (((a0 - ((jushr a0 1) &&& 1431655765)) &&& 858993459) + ((jushr (a0 - ((jushr a0 1) &&& 1431655765)) 2) &&& 858993459)) 4)) &&& 252645135) + (jushr (((((a0 - ((jushr a0 1) &&& 1431655765)) &&& 858993459) + ((jushr (a0 - ((jushr a0 1) &&& 1431655765)) 2) &&& 858993459)) + (jushr (((a0 - ((jushr a0 1) &&& 1431655765)) &&& 858993459) + ((jushr (a0 - ((jushr a0 1) &&& 1431655765)) 2) &&& 858993459)) 4)) &&& 252645135) 8)))] dJ6_bitCount_0f7a4_40 (by decide) rfl ?_
  refine pw_iload_n hO dJ6_bitCount_0f7a4_41 0 rfl ?_
  refine pw_iload_n hO dJ6_bitCount_0f7a4_42 0 rfl ?_
  refine pw_bipush hO dJ6_bitCount_0f7a4_43 (v := 16) (by decide) ?_
  refine pw_iushr hO dJ6_bitCount_0f7a4_45 ?_
  refine pw_iadd hO dJ6_bitCount_0f7a4_46 ?_
  refine pw_istore_n hO [(0, .int (((((((a0 - ((jushr a0 1) &&& 1431655765)) &&& 858993459) + ((jushr (a0 - ((jushr a0 1) &&& 1431655765)) 2) &&& 858993459)) + (jushr (((a0 - ((jushr a0 1) &&& 1431655765)) &&& 858993459) + ((jushr (a0 - ((jushr a0 1) &&& 1431655765)) 2) &&& 858993459)) 4)) &&& 252645135) + (jushr (((((a0 - ((jushr a0 1) &&& 1431655765)) &&& 858993459) + ((jushr (a0 - ((jushr a0 1) &&& 1431655765)) 2) &&& 858993459)) + (jushr (((a0 - ((jushr a0 1) &&& 1431655765)) &&& 858993459) + ((jushr (a0 - ((jushr a0 1) &&& 1431655765)) 2) &&& 858993459)) 4)) &&& 252645135) 8)) + (jushr ((((((a0 - ((jushr a0 1) &&& 1431655765)) &&& 858993459) + ((jushr (a0 - ((jushr a0 1) &&& 1431655765)) 2) &&& 858993459)) + (jushr (((a0 - ((jushr a0 1) &&& 1431655765)) &&& 858993459) + ((jushr (a0 - ((jushr a0 1) &&& 1431655765)) 2) &&& 858993459)) 4)) &&& 252645135) + (jushr (((((a0 - ((jushr a0 1) &&& 1431655765)) &&& 858993459) + ((jushr (a0 - ((jushr a0 1) &&& 1431655765)) 2) &&& 858993459)) + (jushr (((a0 - ((jushr a0 1) &&& 1431655765)) &&& 858993459) + ((jushr (a0 - ((jushr a0 1) &&& 1431655765)) 2) &&& 858993459)) 4)) &&& 252645135) 8)) 16)))] dJ6_bitCount_0f7a4_47 (by decide) rfl ?_
  refine pw_iload_n hO dJ6_bitCount_0f7a4_48 0 rfl ?_
  refine pw_bipush hO dJ6_bitCount_0f7a4_49 (v := 63) (by decide) ?_
  refine pw_iand hO dJ6_bitCount_0f7a4_51 ?_
  exact pw_iret hO hX.2 dJ6_bitCount_0f7a4_52 h
theorem ct_J6_bitCount_0f7a4 {n : Nat} {F : Hp} {a0 : Int32} {rx : Int32} {F' : Hp} (h : g_J6_bitCount_0f7a4 F a0 = some (rx, F')) : CT yJ6_bitCount_0f7a4 cJ6_bitCount_0f7a4 1 (some FieldType.int) (rmd 0) n F [.int a0] (some (.int rx)) F' :=
  ct_intro (own := RJ6) (nm := false) (by decide) rfl (fun h => by cases h) (Nat.le_of_ble_eq_true rfl) (fun X hn hX => bl_J6_bitCount_0f7a4 hX F a0 h)
def g_X7_isSlot_b9 (F : Hp) : Option (Int32 × Hp) := some (1, F)
set_option maxHeartbeats 4000000 in
theorem bl_X7_isSlot_b9 {X : Cx} {rx : Int32} {F' : Hp} (hX : Md X cX7_isSlot RX7 1 (rmd 0) (some FieldType.boolean) false (some (.int rx)) F') (F : Hp) (h : g_X7_isSlot_b9 F = some (rx, F')) : PW X 0 0 F 9 [] [] := by
  have hO := hX.1
  unfold g_X7_isSlot_b9 at h
  refine pw_iconst hO dX7_isSlot_9 (v := 1) (by decide) ?_
  refine pw_goto (tgt := 14) hO dX7_isSlot_10 (by decide) ?_
  exact pw_zretc hO hX.2 dX7_isSlot_14 (Or.inr rfl) h
def g_X7_isSlot (F : Hp) (a0 : Int32) : Option (Int32 × Hp) := (if a0 = 0 then g_X7_isSlot_b9 F else (if a0 = 1 then g_X7_isSlot_b9 F else some (0, F)))
set_option maxHeartbeats 4000000 in
theorem bl_X7_isSlot {X : Cx} {rx : Int32} {F' : Hp} (hX : Md X cX7_isSlot RX7 1 (rmd 0) (some FieldType.boolean) false (some (.int rx)) F') (F : Hp) (a0 : Int32) (h : g_X7_isSlot F a0 = some (rx, F')) : PW X 0 0 F 0 [(0, .int a0)] [] := by
  have hO := hX.1
  unfold g_X7_isSlot at h
  refine pw_iload_n hO dX7_isSlot_0 0 rfl ?_
  refine pw_if_eq (tgt := 9) hO dX7_isSlot_1 (by decide) h (fun c1 h => ?_) (fun c1 h => ?_)
  · refine pw_sub (lv1 := []) [] rfl ?_
    exact bl_X7_isSlot_b9 hX F h
  · refine pw_iload_n hO dX7_isSlot_4 0 rfl ?_
    refine pw_iconst hO dX7_isSlot_5 (v := 1) (by decide) ?_
    refine pw_icmp_ne (tgt := 13) hO dX7_isSlot_6 (by decide) h (fun c2 h => ?_) (fun c2 h => ?_)
    · refine pw_iconst hO dX7_isSlot_13 (v := 0) (by decide) ?_
      exact pw_zretc hO hX.2 dX7_isSlot_14 (Or.inl rfl) h
    · refine pw_sub (lv1 := []) [] rfl ?_
      exact bl_X7_isSlot_b9 hX F h
theorem ct_X7_isSlot {n : Nat} {F : Hp} {a0 : Int32} {rx : Int32} {F' : Hp} (h : g_X7_isSlot F a0 = some (rx, F')) : CT yX7_isSlot cX7_isSlot 1 (some FieldType.boolean) (rmd 0) n F [.int a0] (some (.int rx)) F' :=
  ct_intro (own := RX7) (nm := false) (by decide) rfl (fun h => by cases h) (Nat.le_of_ble_eq_true rfl) (fun X hn hX => bl_X7_isSlot hX F a0 h)
