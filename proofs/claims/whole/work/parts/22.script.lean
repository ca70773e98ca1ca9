def g_X0_beforeAt (F : Hp) (a0 : Nat) (a1 : Int32) : Option (Option Nat × Hp) := (if a1 < 0 then some (none, F) else ((gR F a0 0 0).bind fun q2 => ((aN F q2).bind fun x3 => (if x3 ≤ a1 then some (none, F) else ((gR F a0 0 0).bind fun q5 => ((aQ F q5 a1).bind fun oq6 => optQ oq6 (some (none, F)) fun q6 => (some (some q6, F))))))))
set_option maxHeartbeats 4000000 in
theorem bl_X0_beforeAt {X : Cx} {rx : Option Nat} {F' : Hp} (hX : Md X cX0_beforeAt RX0 2 (rmd 0) (some (FieldType.object "DozeLink$Doze")) false (some (va_rf rx)) F') (F : Hp) (a0 : Nat) (a1 : Int32) (h : g_X0_beforeAt F a0 a1 = some (rx, F')) : PW X 0 0 F 0 [(0, .ref a0), (1, .int a1)] [] := by
  have hO := hX.1
  unfold g_X0_beforeAt at h
  refine pw_iload_n hO dX0_beforeAt_0 1 rfl ?_
  refine pw_if_lt (tgt := 22) hO dX0_beforeAt_1 (by decide) h (fun c1 h => ?_) (fun c1 h => ?_)
  · refine pw_null hO dX0_beforeAt_22 ?_
    exact pw_aretQ hO hX.2 dX0_beforeAt_23 (.null) rfl h
  · refine pw_iload_n hO dX0_beforeAt_4 1 rfl ?_
    refine pw_aload_n hO dX0_beforeAt_5 0 rfl ?_
    refine pw_getR hO dX0_beforeAt_6 fl_X0_11 h (fun q2 h => ?_)
    refine pw_alen hO dX0_beforeAt_9 h (fun x3 h => ?_)
    refine pw_icmp_ge (tgt := 22) hO dX0_beforeAt_10 (by decide) h (fun c4 h => ?_) (fun c4 h => ?_)
    · refine pw_null hO dX0_beforeAt_22 ?_
      exact pw_aretQ hO hX.2 dX0_beforeAt_23 (.null) rfl h
    · refine pw_aload_n hO dX0_beforeAt_13 0 rfl ?_
      refine pw_getR hO dX0_beforeAt_14 fl_X0_11 h (fun q5 h => ?_)
      refine pw_iload_n hO dX0_beforeAt_17 1 rfl ?_
      refine pw_aald hO dX0_beforeAt_18 h (fun h => ?_) (fun q6 h => ?_)
      · refine pw_goto (tgt := 23) hO dX0_beforeAt_19 (by decide) ?_
        exact pw_aretQ hO hX.2 dX0_beforeAt_23 (.null) rfl h
      · refine pw_goto (tgt := 23) hO dX0_beforeAt_19 (by decide) ?_
        exact pw_aretQ hO hX.2 dX0_beforeAt_23 (.ref q6) rfl h
theorem ct_X0_beforeAt {n : Nat} {F : Hp} {a0 : Nat} {a1 : Int32} {rx : Option Nat} {F' : Hp} (h : g_X0_beforeAt F a0 a1 = some (rx, F')) : CT yX0_beforeAt cX0_beforeAt 2 (some (FieldType.object "DozeLink$Doze")) (rmd 0) n F [.ref a0, .int a1] (some (va_rf rx)) F' :=
  ct_intro (own := RX0) (nm := false) (by decide) rfl (fun h => by cases h) (Nat.le_of_ble_eq_true rfl) (fun X hn hX => bl_X0_beforeAt hX F a0 a1 h)
def g_X0_forgetFirst_b16 : Nat → Hp → Nat → Nat → Int32 → Int32 → Option Hp
  | 0, _, _, _, _, _ => none
  | n + 1, F, v0, v1, v2, v3 => (if v2 ≤ v3 then (if v2 < 0 then some F else ((gR F v0 0 0).bind fun q7 => ((sQ F q7 v2 v1).bind fun F8 => ((pV F8 v0 0 1 (.int v2)).bind fun F9 => some F9)))) else ((gR F v0 0 0).bind fun q10 => ((gR F v0 0 0).bind fun q11 => ((aQ F q11 (v3 + 1)).bind fun oq12 => optQ oq12 (none) fun q12 => (((sQ F q10 v3 q12).bind fun F14 => g_X0_forgetFirst_b16 n F14 v0 v1 v2 ((v3 + 1))))))))
set_option maxHeartbeats 4000000 in
theorem bl_X0_forgetFirst_b16 {X : Cx} {F' : Hp} (hX : Md X cX0_forgetFirst RX0 4 (rmd 1) none false none F') : ∀ (n : Nat) (F : Hp) (v0 : Nat) (v1 : Nat) (v2 : Int32) (v3 : Int32), g_X0_forgetFirst_b16 n F v0 v1 v2 v3 = some F' → PW X 0 0 F 16 [(0, .ref v0), (1, .ref v1), (2, .int v2), (3, .int v3)] [] := by
  have hO := hX.1
  intro n
  induction n with
  | zero => intro F v0 v1 v2 v3 h; rw [g_X0_forgetFirst_b16] at h; cases h
  | succ n ih =>
    intro F v0 v1 v2 v3 h
    rw [g_X0_forgetFirst_b16] at h
    refine pw_iload_n hO dX0_forgetFirst_16 3 rfl ?_
    refine pw_iload_n hO dX0_forgetFirst_17 2 rfl ?_
    refine pw_icmp_ge (tgt := 41) hO dX0_forgetFirst_18 (by decide) h (fun c5 h => ?_) (fun c5 h => ?_)
    · refine pw_iload_n hO dX0_forgetFirst_41 2 rfl ?_
      refine pw_if_lt (tgt := 57) hO dX0_forgetFirst_42 (by decide) h (fun c6 h => ?_) (fun c6 h => ?_)
      · exact pw_vret hO hX.2 dX0_forgetFirst_57 h
      · refine pw_aload_n hO dX0_forgetFirst_45 0 rfl ?_
        refine pw_getR hO dX0_forgetFirst_46 fl_X0_11 h (fun q7 h => ?_)
        refine pw_iload_n hO dX0_forgetFirst_49 2 rfl ?_
        refine pw_aload_n hO dX0_forgetFirst_50 1 rfl ?_
        refine pw_aast hO dX0_forgetFirst_51 h (fun F8 h => ?_)
        refine pw_aload_n hO dX0_forgetFirst_52 0 rfl ?_
        refine pw_iload_n hO dX0_forgetFirst_53 2 rfl ?_
        refine pw_putI hO dX0_forgetFirst_54 fp_X0_18 h (fun F9 h => ?_)
        exact pw_vret hO hX.2 dX0_forgetFirst_57 h
    · refine pw_aload_n hO dX0_forgetFirst_21 0 rfl ?_
      refine pw_getR hO dX0_forgetFirst_22 fl_X0_11 h (fun q10 h => ?_)
      refine pw_iload_n hO dX0_forgetFirst_25 3 rfl ?_
      refine pw_aload_n hO dX0_forgetFirst_26 0 rfl ?_
      refine pw_getR hO dX0_forgetFirst_27 fl_X0_11 h (fun q11 h => ?_)
      refine pw_iload_n hO dX0_forgetFirst_30 3 rfl ?_
      refine pw_iconst hO dX0_forgetFirst_31 (v := 1) (by decide) ?_
      refine pw_iadd hO dX0_forgetFirst_32 ?_
      refine pw_aald hO dX0_forgetFirst_33 h (fun h => ?_) (fun q12 h => ?_)
      · cases h
      · refine pw_aast hO dX0_forgetFirst_34 h (fun F14 h => ?_)
        refine pw_iinc hO [(3, .int (v3 + 1)), (0, .ref v0), (1, .ref v1), (2, .int v2)] dX0_forgetFirst_35 3 rfl rfl (by decide) rfl ?_
        refine pw_goto (tgt := 16) hO dX0_forgetFirst_38 (by decide) ?_
        refine pw_sub (lv1 := [(0, .ref v0), (1, .ref v1), (2, .int v2), (3, .int (v3 + 1))]) [1, 2, 3, 0] rfl ?_
        exact ih F14 v0 v1 v2 ((v3 + 1)) h
def g_X0_forgetFirst (F : Hp) (a0 : Nat) : Option Hp := (ckO F a0 0 (bnd2 (g_X0_beforeAt F a0 0) fun oq2 F1 => optQ oq2 (none) fun q2 => (((gR F1 a0 0 0).bind fun q3 => ((aN F1 q3).bind fun x4 => g_X0_forgetFirst_b16 gF F1 a0 q2 ((x4 - 1)) 0)))))
set_option maxHeartbeats 4000000 in
theorem bl_X0_forgetFirst {X : Cx} {F' : Hp} (hX : Md X cX0_forgetFirst RX0 4 (rmd 1) none false none F') (F : Hp) (a0 : Nat) (h : g_X0_forgetFirst F a0 = some F') : PW X 0 0 F 0 [(0, .ref a0)] [] := by
  have hO := hX.1
  unfold g_X0_forgetFirst at h
  refine pw_aload_n hO dX0_forgetFirst_0 0 rfl ?_
  refine pw_iconst hO dX0_forgetFirst_1 (v := 0) (by decide) ?_
  refine pw_VQ (a := a0) (ci := 0) (as := [.int 0]) (st := []) (d := 0) hO [.int 0, .ref a0] dX0_forgetFirst_2 vl_X0_25 h (fun r F1 hg n => ct_X0_beforeAt hg) ⟨Nat.le_of_ble_eq_true rfl, Nat.le_of_ble_eq_true rfl⟩ ⟨Nat.zero_le _, Nat.zero_le _⟩ (Nat.le_of_ble_eq_true rfl) (fun _ _ => rfl) rfl (fun F1 h => ?_) (fun q2 F1 h => ?_)
  · change (none : Option _) = some _ at h
    cases h
  · refine pw_astore_n hO [(1, .ref q2), (0, .ref a0)] dX0_forgetFirst_5 (by decide) rfl ?_
    refine pw_aload_n hO dX0_forgetFirst_6 1 rfl ?_
    refine pw_getR hO dX0_forgetFirst_7 fl_X0_11 h (fun q3 h => ?_)
    refine pw_alen hO dX0_forgetFirst_10 h (fun x4 h => ?_)
    refine pw_iconst hO dX0_forgetFirst_11 (v := 1) (by decide) ?_
    refine pw_isub hO dX0_forgetFirst_12 ?_
    refine pw_istore_n hO [(2, .int (x4 - 1)), (1, .ref q2), (0, .ref a0)] dX0_forgetFirst_13 (by decide) rfl ?_
    refine pw_iconst hO dX0_forgetFirst_14 (v := 0) (by decide) ?_
    refine pw_istore_n hO [(3, .int 0), (2, .int (x4 - 1)), (1, .ref q2), (0, .ref a0)] dX0_forgetFirst_15 (by decide) rfl ?_
    refine pw_sub (lv1 := [(0, .ref a0), (1, .ref q2), (2, .int (x4 - 1)), (3, .int 0)]) [3, 2, 1, 0] rfl ?_
    exact bl_X0_forgetFirst_b16 hX gF F1 a0 q2 ((x4 - 1)) 0 h
theorem ct_X0_forgetFirst {n : Nat} {F : Hp} {a0 : Nat} {F' : Hp} (h : g_X0_forgetFirst F a0 = some F') : CT yX0_forgetFirst cX0_forgetFirst 4 none (rmd 1) n F [.ref a0] none F' :=
  ct_intro (own := RX0) (nm := false) (by decide) rfl (fun h => by cases h) (Nat.le_of_ble_eq_true rfl) (fun X hn hX => bl_X0_forgetFirst hX F a0 h)
def g_X0_add_b16 (F : Hp) (v0 : Nat) (v1 : Nat) : Option Hp := ((gI F v0 0 1).bind fun x5 => (ckO F v0 0 (bnd2 (g_X0_beforeAt F v0 x5) fun oq7 F6 => optQ oq7 (some F6) fun q7 => ((ckO F6 q7 1 ((g_X1_become F6 q7 v1).bind fun F8 => ((gI F8 v0 0 1).bind fun x10 => ((pV F8 v0 0 1 (.int (x10 + 1))).bind fun F11 => some F11))))))))
set_option maxHeartbeats 4000000 in
theorem bl_X0_add_b16 {X : Cx} {F' : Hp} (hX : Md X cX0_add RX0 3 (rmd 2) none false none F') (F : Hp) (v0 : Nat) (v1 : Nat) (h : g_X0_add_b16 F v0 v1 = some F') : PW X 0 0 F 16 [(0, .ref v0), (1, .ref v1)] [] := by
  have hO := hX.1
  unfold g_X0_add_b16 at h
  refine pw_aload_n hO dX0_add_16 0 rfl ?_
  refine pw_aload_n hO dX0_add_17 0 rfl ?_
  refine pw_getI hO dX0_add_18 fl_X0_18 h (fun x5 h => ?_)
  refine pw_VQ (a := v0) (ci := 0) (as := [.int x5]) (st := []) (d := 0) hO [.int x5, .ref v0] dX0_add_21 vl_X0_25 h (fun r F1 hg n => ct_X0_beforeAt hg) ⟨Nat.le_of_ble_eq_true rfl, Nat.le_of_ble_eq_true rfl⟩ ⟨Nat.zero_le _, Nat.zero_le _⟩ (Nat.le_of_ble_eq_true rfl) (fun _ _ => rfl) rfl (fun F6 h => ?_) (fun q7 F6 h => ?_)
  · refine pw_astore_nN hO [(2, .null), (0, .ref v0), (1, .ref v1)] dX0_add_24 (by decide) rfl ?_
    refine pw_aload_nN hO dX0_add_25 0 rfl ?_
    refine pw_ifnullN (tgt := 44) hO dX0_add_26 (by decide) ?_
    exact pw_vret hO hX.2 dX0_add_44 h
  · refine pw_astore_n hO [(2, .ref q7), (0, .ref v0), (1, .ref v1)] dX0_add_24 (by decide) rfl ?_
    refine pw_aload_n hO dX0_add_25 0 rfl ?_
    refine pw_ifnull hO dX0_add_26 ?_
    refine pw_aload_n hO dX0_add_29 0 rfl ?_
    refine pw_aload_n hO dX0_add_30 2 rfl ?_
    refine pw_V0 (a := q7) (ci := 1) (as := [.ref v1]) (st := []) (d := 1) hO [.ref v1, .ref q7] dX0_add_31 vl_X0_29 h (fun F1 hg n => ct_X1_become hg) ⟨Nat.le_of_ble_eq_true rfl, Nat.le_of_ble_eq_true rfl⟩ ⟨Nat.zero_le _, Nat.zero_le _⟩ (Nat.le_of_ble_eq_true rfl) (fun _ _ => rfl) rfl (fun F8 h => ?_)
    refine pw_aload_n hO dX0_add_34 1 rfl ?_
    refine pw_dup hO dX0_add_35 rfl ?_
    refine pw_getI hO dX0_add_36 fl_X0_18 h (fun x10 h => ?_)
    refine pw_iconst hO dX0_add_39 (v := 1) (by decide) ?_
    refine pw_iadd hO dX0_add_40 ?_
    refine pw_putI hO dX0_add_41 fp_X0_18 h (fun F11 h => ?_)
    exact pw_vret hO hX.2 dX0_add_44 h
def g_X0_add (F : Hp) (a0 : Nat) (a1 : Nat) : Option Hp := ((gI F a0 0 1).bind fun x1 => ((gR F a0 0 0).bind fun q2 => ((aN F q2).bind fun x3 => (if x1 < x3 then g_X0_add_b16 F a0 a1 else (ckO F a0 0 ((g_X0_forgetFirst F a0).bind fun F12 => g_X0_add_b16 F12 a0 a1))))))
set_option maxHeartbeats 4000000 in
theorem bl_X0_add {X : Cx} {F' : Hp} (hX : Md X cX0_add RX0 3 (rmd 2) none false none F') (F : Hp) (a0 : Nat) (a1 : Nat) (h : g_X0_add F a0 a1 = some F') : PW X 0 0 F 0 [(0, .ref a0), (1, .ref a1)] [] := by
  have hO := hX.1
  unfold g_X0_add at h
  refine pw_aload_n hO dX0_add_0 0 rfl ?_
  refine pw_getI hO dX0_add_1 fl_X0_18 h (fun x1 h => ?_)
  refine pw_aload_n hO dX0_add_4 0 rfl ?_
  refine pw_getR hO dX0_add_5 fl_X0_11 h (fun q2 h => ?_)
  refine pw_alen hO dX0_add_8 h (fun x3 h => ?_)
  refine pw_icmp_lt (tgt := 16) hO dX0_add_9 (by decide) h (fun c4 h => ?_) (fun c4 h => ?_)
  · refine pw_sub (lv1 := [(0, .ref a0), (1, .ref a1)]) [0, 1] rfl ?_
    exact bl_X0_add_b16 hX F a0 a1 h
  · refine pw_aload_n hO dX0_add_12 0 rfl ?_
    refine pw_V0 (a := a0) (ci := 0) (as := []) (st := []) (d := 1) hO [.ref a0] dX0_add_13 vl_X0_22 h (fun F1 hg n => ct_X0_forgetFirst hg) ⟨Nat.le_of_ble_eq_true rfl, Nat.le_of_ble_eq_true rfl⟩ ⟨Nat.zero_le _, Nat.zero_le _⟩ (Nat.le_of_ble_eq_true rfl) (fun _ _ => rfl) rfl (fun F12 h => ?_)
    refine pw_sub (lv1 := [(0, .ref a0), (1, .ref a1)]) [0, 1] rfl ?_
    exact bl_X0_add_b16 hX F12 a0 a1 h
theorem ct_X0_add {n : Nat} {F : Hp} {a0 : Nat} {a1 : Nat} {F' : Hp} (h : g_X0_add F a0 a1 = some F') : CT yX0_add cX0_add 3 none (rmd 2) n F [.ref a0, .ref a1] none F' :=
  ct_intro (own := RX0) (nm := false) (by decide) rfl (fun h => by cases h) (Nat.le_of_ble_eq_true rfl) (fun X hn hX => bl_X0_add hX F a0 a1 h)
def g_X0_takeBack (F : Hp) (a0 : Nat) (a1 : Nat) : Option (Int32 × Hp) := ((gI F a0 0 1).bind fun x1 => (ckO F a0 0 (bnd2 (g_X0_beforeAt F a0 (x1 - 1)) fun oq3 F2 => optQ oq3 (some (0, F2)) fun q3 => ((ckO F2 a1 1 ((g_X1_become F2 a1 q3).bind fun F4 => ((gI F4 a0 0 1).bind fun x6 => ((pV F4 a0 0 1 (.int (x6 - 1))).bind fun F7 => some (1, F7)))))))))
set_option maxHeartbeats 4000000 in
theorem bl_X0_takeBack {X : Cx} {rx : Int32} {F' : Hp} (hX : Md X cX0_takeBack RX0 3 (rmd 2) (some FieldType.boolean) false (some (.int rx)) F') (F : Hp) (a0 : Nat) (a1 : Nat) (h : g_X0_takeBack F a0 a1 = some (rx, F')) : PW X 0 0 F 0 [(0, .ref a0), (1, .ref a1)] [] := by
  have hO := hX.1
  unfold g_X0_takeBack at h
  refine pw_aload_n hO dX0_takeBack_0 0 rfl ?_
  refine pw_aload_n hO dX0_takeBack_1 0 rfl ?_
  refine pw_getI hO dX0_takeBack_2 fl_X0_18 h (fun x1 h => ?_)
  refine pw_iconst hO dX0_takeBack_5 (v := 1) (by decide) ?_
  refine pw_isub hO dX0_takeBack_6 ?_
  refine pw_VQ (a := a0) (ci := 0) (as := [.int (x1 - 1)]) (st := []) (d := 0) hO [.int (x1 - 1), .ref a0] dX0_takeBack_7 vl_X0_25 h (fun r F1 hg n => ct_X0_beforeAt hg) ⟨Nat.le_of_ble_eq_true rfl, Nat.le_of_ble_eq_true rfl⟩ ⟨Nat.zero_le _, Nat.zero_le _⟩ (Nat.le_of_ble_eq_true rfl) (fun _ _ => rfl) rfl (fun F2 h => ?_) (fun q3 F2 h => ?_)
  · refine pw_astore_nN hO [(2, .null), (0, .ref a0), (1, .ref a1)] dX0_takeBack_10 (by decide) rfl ?_
    refine pw_aload_nN hO dX0_takeBack_11 0 rfl ?_
    refine pw_ifnonnullN hO dX0_takeBack_12 ?_
    refine pw_iconst hO dX0_takeBack_15 (v := 0) (by decide) ?_
    exact pw_zretc hO hX.2 dX0_takeBack_16 (Or.inl rfl) h
  · refine pw_astore_n hO [(2, .ref q3), (0, .ref a0), (1, .ref a1)] dX0_takeBack_10 (by decide) rfl ?_
    refine pw_aload_n hO dX0_takeBack_11 0 rfl ?_
    refine pw_ifnonnull (tgt := 17) hO dX0_takeBack_12 (by decide) ?_
    refine pw_aload_n hO dX0_takeBack_17 2 rfl ?_
    refine pw_aload_n hO dX0_takeBack_18 0 rfl ?_
    refine pw_V0 (a := a1) (ci := 1) (as := [.ref q3]) (st := []) (d := 1) hO [.ref q3, .ref a1] dX0_takeBack_19 vl_X0_29 h (fun F1 hg n => ct_X1_become hg) ⟨Nat.le_of_ble_eq_true rfl, Nat.le_of_ble_eq_true rfl⟩ ⟨Nat.zero_le _, Nat.zero_le _⟩ (Nat.le_of_ble_eq_true rfl) (fun _ _ => rfl) rfl (fun F4 h => ?_)
    refine pw_aload_n hO dX0_takeBack_22 1 rfl ?_
    refine pw_dup hO dX0_takeBack_23 rfl ?_
    refine pw_getI hO dX0_takeBack_24 fl_X0_18 h (fun x6 h => ?_)
    refine pw_iconst hO dX0_takeBack_27 (v := 1) (by decide) ?_
    refine pw_isub hO dX0_takeBack_28 ?_
    refine pw_putI hO dX0_takeBack_29 fp_X0_18 h (fun F7 h => ?_)
    refine pw_iconst hO dX0_takeBack_32 (v := 1) (by decide) ?_
    exact pw_zretc hO hX.2 dX0_takeBack_33 (Or.inr rfl) h
theorem ct_X0_takeBack {n : Nat} {F : Hp} {a0 : Nat} {a1 : Nat} {rx : Int32} {F' : Hp} (h : g_X0_takeBack F a0 a1 = some (rx, F')) : CT yX0_takeBack cX0_takeBack 3 (some FieldType.boolean) (rmd 2) n F [.ref a0, .ref a1] (some (.int rx)) F' :=
  ct_intro (own := RX0) (nm := false) (by decide) rfl (fun h => by cases h) (Nat.le_of_ble_eq_true rfl) (fun X hn hX => bl_X0_takeBack hX F a0 a1 h)
def g_X2_readSide (F : Hp) (a0 : Nat) (a1 : Nat) (a2 : Int32) : Option Hp := (ckO F a1 6 (bnd2 (g_X6_figureAt F a1 a2) fun x2 F1 => ((pV F1 a0 3 0 (.int x2)).bind fun F3 => (ckO F3 a1 6 (bnd2 (g_X6_figureAt F3 a1 (a2 + 1)) fun x5 F4 => ((pV F4 a0 3 1 (.int x5)).bind fun F6 => (ckO F6 a1 6 (bnd2 (g_X6_figureAt F6 a1 (a2 + 2)) fun x8 F7 => ((pV F7 a0 3 2 (.int x8)).bind fun F9 => some F9)))))))))
set_option maxHeartbeats 4000000 in
theorem bl_X2_readSide {X : Cx} {F' : Hp} (hX : Md X cX2_readSide RX2 3 (rmd 2) none false none F') (F : Hp) (a0 : Nat) (a1 : Nat) (a2 : Int32) (h : g_X2_readSide F a0 a1 a2 = some F') : PW X 0 0 F 0 [(0, .ref a0), (1, .ref a1), (2, .int a2)] [] := by
  have hO := hX.1
  unfold g_X2_readSide at h
  refine pw_aload_n hO dX2_readSide_0 0 rfl ?_
  refine pw_aload_n hO dX2_readSide_1 1 rfl ?_
  refine pw_iload_n hO dX2_readSide_2 2 rfl ?_
  refine pw_VI (a := a1) (ci := 6) (as := [.int a2]) (st := [.ref a0]) (d := 1) hO [.int a2, .ref a1, .ref a0] dX2_readSide_3 vl_X2_26 h (fun r F1 hg n => ct_X6_figureAt hg) ⟨Nat.le_of_ble_eq_true rfl, Nat.le_of_ble_eq_true rfl⟩ ⟨Nat.zero_le _, Nat.zero_le _⟩ (Nat.le_of_ble_eq_true rfl) (fun _ _ => rfl) rfl (fun x2 F1 h => ?_)
  refine pw_putI hO dX2_readSide_6 fp_X2_49 h (fun F3 h => ?_)
  refine pw_aload_n hO dX2_readSide_9 0 rfl ?_
  refine pw_aload_n hO dX2_readSide_10 1 rfl ?_
  refine pw_iload_n hO dX2_readSide_11 2 rfl ?_
  refine pw_iconst hO dX2_readSide_12 (v := 1) (by decide) ?_
  refine pw_iadd hO dX2_readSide_13 ?_
  refine pw_VI (a := a1) (ci := 6) (as := [.int (a2 + 1)]) (st := [.ref a0]) (d := 1) hO [.int (a2 + 1), .ref a1, .ref a0] dX2_readSide_14 vl_X2_26 h (fun r F1 hg n => ct_X6_figureAt hg) ⟨Nat.le_of_ble_eq_true rfl, Nat.le_of_ble_eq_true rfl⟩ ⟨Nat.zero_le _, Nat.zero_le _⟩ (Nat.le_of_ble_eq_true rfl) (fun _ _ => rfl) rfl (fun x5 F4 h => ?_)
  refine pw_putI hO dX2_readSide_17 fp_X2_61 h (fun F6 h => ?_)
  refine pw_aload_n hO dX2_readSide_20 0 rfl ?_
  refine pw_aload_n hO dX2_readSide_21 1 rfl ?_
  refine pw_iload_n hO dX2_readSide_22 2 rfl ?_
  refine pw_iconst hO dX2_readSide_23 (v := 2) (by decide) ?_
  refine pw_iadd hO dX2_readSide_24 ?_
  refine pw_VI (a := a1) (ci := 6) (as := [.int (a2 + 2)]) (st := [.ref a0]) (d := 1) hO [.int (a2 + 2), .ref a1, .ref a0] dX2_readSide_25 vl_X2_26 h (fun r F1 hg n => ct_X6_figureAt hg) ⟨Nat.le_of_ble_eq_true rfl, Nat.le_of_ble_eq_true rfl⟩ ⟨Nat.zero_le _, Nat.zero_le _⟩ (Nat.le_of_ble_eq_true rfl) (fun _ _ => rfl) rfl (fun x8 F7 h => ?_)
  refine pw_putI hO dX2_readSide_28 fp_X2_64 h (fun F9 h => ?_)
  exact pw_vret hO hX.2 dX2_readSide_31 h
theorem ct_X2_readSide {n : Nat} {F : Hp} {a0 : Nat} {a1 : Nat} {a2 : Int32} {F' : Hp} (h : g_X2_readSide F a0 a1 a2 = some F') : CT yX2_readSide cX2_readSide 3 none (rmd 2) n F [.ref a0, .ref a1, .int a2] none F' :=
  ct_intro (own := RX2) (nm := false) (by decide) rfl (fun h => by cases h) (Nat.le_of_ble_eq_true rfl) (fun X hn hX => bl_X2_readSide hX F a0 a1 a2 h)
def g_X2_become_b96 : Nat → Hp → Nat → Nat → Int32 → Option Hp
  | 0, _, _, _, _ => none
  | n + 1, F, v0, v1, v2 => ((gR F v0 2 1).bind fun q30 => ((aN F q30).bind fun x31 => (if x31 ≤ v2 then some F else ((gI F v1 6 1).bind fun x33 => (if x33 ≤ (9 + v2) then some F else ((gR F v0 2 1).bind fun q35 => (ckO F v1 6 (bnd2 (g_X6_signAt F v1 (9 + v2)) fun x37 F36 => ((sI F36 q35 0 v2 x37).bind fun F38 => ((gI F38 v0 2 2).bind fun x39 => ((pV F38 v0 2 2 (.int (x39 + 1))).bind fun F40 => g_X2_become_b96 n F40 v0 v1 ((v2 + 1)))))))))))))
set_option maxHeartbeats 4000000 in
theorem bl_X2_become_b96 {X : Cx} {F' : Hp} (hX : Md X cX2_become RX2 3 (rmd 3) none false none F') : ∀ (n : Nat) (F : Hp) (v0 : Nat) (v1 : Nat) (v2 : Int32), g_X2_become_b96 n F v0 v1 v2 = some F' → PW X 0 0 F 96 [(0, .ref v0), (1, .ref v1), (2, .int v2)] [] := by
  have hO := hX.1
  intro n
  induction n with
  | zero => intro F v0 v1 v2 h; rw [g_X2_become_b96] at h; cases h
  | succ n ih =>
    intro F v0 v1 v2 h
    rw [g_X2_become_b96] at h
    refine pw_iload_n hO dX2_become_96 2 rfl ?_
    refine pw_aload_n hO dX2_become_97 0 rfl ?_
    refine pw_getR hO dX2_become_98 fl_X2_18 h (fun q30 h => ?_)
    refine pw_alen hO dX2_become_101 h (fun x31 h => ?_)
    refine pw_icmp_ge (tgt := 146) hO dX2_become_102 (by decide) h (fun c32 h => ?_) (fun c32 h => ?_)
    · exact pw_vret hO hX.2 dX2_become_146 h
    · refine pw_bipush hO dX2_become_105 (v := 9) (by decide) ?_
      refine pw_iload_n hO dX2_become_107 2 rfl ?_
      refine pw_iadd hO dX2_become_108 ?_
      refine pw_aload_n hO dX2_become_109 1 rfl ?_
      refine pw_getI hO dX2_become_110 fl_X2_57 h (fun x33 h => ?_)
      refine pw_icmp_ge (tgt := 146) hO dX2_become_113 (by decide) h (fun c34 h => ?_) (fun c34 h => ?_)
      · exact pw_vret hO hX.2 dX2_become_146 h
      · refine pw_aload_n hO dX2_become_116 0 rfl ?_
        refine pw_getR hO dX2_become_117 fl_X2_18 h (fun q35 h => ?_)
        refine pw_iload_n hO dX2_become_120 2 rfl ?_
        refine pw_aload_n hO dX2_become_121 1 rfl ?_
        refine pw_bipush hO dX2_become_122 (v := 9) (by decide) ?_
        refine pw_iload_n hO dX2_become_124 2 rfl ?_
        refine pw_iadd hO dX2_become_125 ?_
        refine pw_VI (a := v1) (ci := 6) (as := [.int (9 + v2)]) (st := [.int v2, .ref q35]) (d := 0) hO [.int (9 + v2), .ref v1, .int v2, .ref q35] dX2_become_126 vl_X2_58 h (fun r F1 hg n => ct_X6_signAt hg) ⟨Nat.le_of_ble_eq_true rfl, Nat.le_of_ble_eq_true rfl⟩ ⟨Nat.zero_le _, Nat.zero_le _⟩ (Nat.le_of_ble_eq_true rfl) (fun _ _ => rfl) rfl (fun x37 F36 h => ?_)
        refine pw_iast hO dX2_become_129 h (fun F38 h => ?_)
        refine pw_aload_n hO dX2_become_130 0 rfl ?_
        refine pw_dup hO dX2_become_131 rfl ?_
        refine pw_getI hO dX2_become_132 fl_X2_22 h (fun x39 h => ?_)
        refine pw_iconst hO dX2_become_135 (v := 1) (by decide) ?_
        refine pw_iadd hO dX2_become_136 ?_
        refine pw_putI hO dX2_become_137 fp_X2_22 h (fun F40 h => ?_)
        refine pw_iinc hO [(2, .int (v2 + 1)), (0, .ref v0), (1, .ref v1)] dX2_become_140 2 rfl rfl (by decide) rfl ?_
        refine pw_goto (tgt := 96) hO dX2_become_143 (by decide) ?_
        refine pw_sub (lv1 := [(0, .ref v0), (1, .ref v1), (2, .int (v2 + 1))]) [1, 2, 0] rfl ?_
        exact ih F40 v0 v1 ((v2 + 1)) h
def g_X2_become (F : Hp) (a0 : Nat) (a1 : Nat) : Option Hp := ((gR F a0 2 0).bind fun q1 => (ckO F a1 6 (bnd2 (g_X6_figureAt F a1 1) fun x3 F2 => ((pV F2 q1 1 3 (.int x3)).bind fun F4 => ((gR F4 a0 2 0).bind fun q5 => (ckO F4 a1 6 (bnd2 (g_X6_figureAt F4 a1 2) fun x7 F6 => ((pV F6 q5 1 4 (.int x7)).bind fun F8 => ((gR F8 a0 2 0).bind fun q9 => ((gR F8 q9 1 0).bind fun q10 => ((g_X2_readSide F8 q10 a1 3).bind fun F11 => ((gR F11 a0 2 0).bind fun q13 => ((gR F11 q13 1 1).bind fun q14 => ((g_X2_readSide F11 q14 a1 6).bind fun F15 => ((gR F15 a0 2 0).bind fun q17 => ((gR F15 q17 1 0).bind fun q18 => ((gR F15 a0 2 0).bind fun q19 => ((gR F15 q19 1 1).bind fun q20 => ((gI F15 q20 3 0).bind fun x21 => ((pV F15 q18 3 3 (.int x21)).bind fun F22 => ((gR F22 a0 2 0).bind fun q23 => ((gR F22 q23 1 1).bind fun q24 => ((gR F22 a0 2 0).bind fun q25 => ((gR F22 q25 1 0).bind fun q26 => ((gI F22 q26 3 0).bind fun x27 => ((pV F22 q24 3 3 (.int x27)).bind fun F28 => ((pV F28 a0 2 2 (.int 0)).bind fun F29 => g_X2_become_b96 gF F29 a0 a1 0)))))))))))))))))))))))))))
set_option maxHeartbeats 4000000 in
theorem bl_X2_become {X : Cx} {F' : Hp} (hX : Md X cX2_become RX2 3 (rmd 3) none false none F') (F : Hp) (a0 : Nat) (a1 : Nat) (h : g_X2_become F a0 a1 = some F') : PW X 0 0 F 0 [(0, .ref a0), (1, .ref a1)] [] := by
  have hO := hX.1
  unfold g_X2_become at h
  refine pw_aload_n hO dX2_become_0 0 rfl ?_
  refine pw_getR hO dX2_become_1 fl_X2_12 h (fun q1 h => ?_)
  refine pw_aload_n hO dX2_become_4 1 rfl ?_
  refine pw_iconst hO dX2_become_5 (v := 1) (by decide) ?_
  refine pw_VI (a := a1) (ci := 6) (as := [.int 1]) (st := [.ref q1]) (d := 1) hO [.int 1, .ref a1, .ref q1] dX2_become_6 vl_X2_26 h (fun r F1 hg n => ct_X6_figureAt hg) ⟨Nat.le_of_ble_eq_true rfl, Nat.le_of_ble_eq_true rfl⟩ ⟨Nat.zero_le _, Nat.zero_le _⟩ (Nat.le_of_ble_eq_true rfl) (fun _ _ => rfl) rfl (fun x3 F2 h => ?_)
  refine pw_putI hO dX2_become_9 fp_X2_32 h (fun F4 h => ?_)
  refine pw_aload_n hO dX2_become_12 0 rfl ?_
  refine pw_getR hO dX2_become_13 fl_X2_12 h (fun q5 h => ?_)
  refine pw_aload_n hO dX2_become_16 1 rfl ?_
  refine pw_iconst hO dX2_become_17 (v := 2) (by decide) ?_
  refine pw_VI (a := a1) (ci := 6) (as := [.int 2]) (st := [.ref q5]) (d := 1) hO [.int 2, .ref a1, .ref q5] dX2_become_18 vl_X2_26 h (fun r F1 hg n => ct_X6_figureAt hg) ⟨Nat.le_of_ble_eq_true rfl, Nat.le_of_ble_eq_true rfl⟩ ⟨Nat.zero_le _, Nat.zero_le _⟩ (Nat.le_of_ble_eq_true rfl) (fun _ _ => rfl) rfl (fun x7 F6 h => ?_)
  refine pw_putI hO dX2_become_21 fp_X2_35 h (fun F8 h => ?_)
  refine pw_aload_n hO dX2_become_24 0 rfl ?_
  refine pw_getR hO dX2_become_25 fl_X2_12 h (fun q9 h => ?_)
  refine pw_getR hO dX2_become_28 fl_X2_38 h (fun q10 h => ?_)
  refine pw_aload_n hO dX2_become_31 1 rfl ?_
  refine pw_iconst hO dX2_become_32 (v := 3) (by decide) ?_
  refine pw_S0 (as := [.ref q10, .ref a1, .int 3]) (st := []) (d := 2) hO [.int 3, .ref a1, .ref q10] dX2_become_33 sl_X2_42 h (fun F1 hg n => ct_X2_readSide hg) ⟨Nat.le_of_ble_eq_true rfl, Nat.le_of_ble_eq_true rfl⟩ ⟨Nat.zero_le _, Nat.zero_le _⟩ (Nat.le_of_ble_eq_true rfl) (fun _ _ => rfl) rfl (fun F11 h => ?_)
  refine pw_aload_n hO dX2_become_36 0 rfl ?_
  refine pw_getR hO dX2_become_37 fl_X2_12 h (fun q13 h => ?_)
  refine pw_getR hO dX2_become_40 fl_X2_46 h (fun q14 h => ?_)
  refine pw_aload_n hO dX2_become_43 1 rfl ?_
  refine pw_bipush hO dX2_become_44 (v := 6) (by decide) ?_
  refine pw_S0 (as := [.ref q14, .ref a1, .int 6]) (st := []) (d := 2) hO [.int 6, .ref a1, .ref q14] dX2_become_46 sl_X2_42 h (fun F1 hg n => ct_X2_readSide hg) ⟨Nat.le_of_ble_eq_true rfl, Nat.le_of_ble_eq_true rfl⟩ ⟨Nat.zero_le _, Nat.zero_le _⟩ (Nat.le_of_ble_eq_true rfl) (fun _ _ => rfl) rfl (fun F15 h => ?_)
  refine pw_aload_n hO dX2_become_49 0 rfl ?_
  refine pw_getR hO dX2_become_50 fl_X2_12 h (fun q17 h => ?_)
  refine pw_getR hO dX2_become_53 fl_X2_38 h (fun q18 h => ?_)
  refine pw_aload_n hO dX2_become_56 0 rfl ?_
  refine pw_getR hO dX2_become_57 fl_X2_12 h (fun q19 h => ?_)
  refine pw_getR hO dX2_become_60 fl_X2_46 h (fun q20 h => ?_)
  refine pw_getI hO dX2_become_63 fl_X2_49 h (fun x21 h => ?_)
  refine pw_putI hO dX2_become_66 fp_X2_54 h (fun F22 h => ?_)
  refine pw_aload_n hO dX2_become_69 0 rfl ?_
  refine pw_getR hO dX2_become_70 fl_X2_12 h (fun q23 h => ?_)
  refine pw_getR hO dX2_become_73 fl_X2_46 h (fun q24 h => ?_)
  refine pw_aload_n hO dX2_become_76 0 rfl ?_
  refine pw_getR hO dX2_become_77 fl_X2_12 h (fun q25 h => ?_)
  refine pw_getR hO dX2_become_80 fl_X2_38 h (fun q26 h => ?_)
  refine pw_getI hO dX2_become_83 fl_X2_49 h (fun x27 h => ?_)
  refine pw_putI hO dX2_become_86 fp_X2_54 h (fun F28 h => ?_)
  refine pw_aload_n hO dX2_become_89 0 rfl ?_
  refine pw_iconst hO dX2_become_90 (v := 0) (by decide) ?_
  refine pw_putI hO dX2_become_91 fp_X2_22 h (fun F29 h => ?_)
  refine pw_iconst hO dX2_become_94 (v := 0) (by decide) ?_
  refine pw_istore_n hO [(2, .int 0), (0, .ref a0), (1, .ref a1)] dX2_become_95 (by decide) rfl ?_
  refine pw_sub (lv1 := [(0, .ref a0), (1, .ref a1), (2, .int 0)]) [1, 2, 0] rfl ?_
  exact bl_X2_become_b96 hX gF F29 a0 a1 0 h
theorem ct_X2_become {n : Nat} {F : Hp} {a0 : Nat} {a1 : Nat} {F' : Hp} (h : g_X2_become F a0 a1 = some F') : CT yX2_become cX2_become 3 none (rmd 3) n F [.ref a0, .ref a1] none F' :=
  ct_intro (own := RX2) (nm := false) (by decide) rfl (fun h => by cases h) (Nat.le_of_ble_eq_true rfl) (fun X hn hX => bl_X2_become hX F a0 a1 h)
def g_X2_isLetter_b12 (F : Hp) : Option (Int32 × Hp) := some (1, F)
set_option maxHeartbeats 4000000 in
theorem bl_X2_isLetter_b12 {X : Cx} {rx : Int32} {F' : Hp} (hX : Md X cX2_isLetter RX2 1 (rmd 0) (some FieldType.boolean) false (some (.int rx)) F') (F : Hp) (h : g_X2_isLetter_b12 F = some (rx, F')) : PW X 0 0 F 12 [] [] := by
  have hO := hX.1
  unfold g_X2_isLetter_b12 at h
  refine pw_iconst hO dX2_isLetter_12 (v := 1) (by decide) ?_
  refine pw_goto (tgt := 17) hO dX2_isLetter_13 (by decide) ?_
  exact pw_zretc hO hX.2 dX2_isLetter_17 (Or.inr rfl) h
def g_X2_isLetter (F : Hp) (a0 : Int32) : Option (Int32 × Hp) := (if a0 = 97 then g_X2_isLetter_b12 F else (if a0 = 98 then g_X2_isLetter_b12 F else some (0, F)))
set_option maxHeartbeats 4000000 in
theorem bl_X2_isLetter {X : Cx} {rx : Int32} {F' : Hp} (hX : Md X cX2_isLetter RX2 1 (rmd 0) (some FieldType.boolean) false (some (.int rx)) F') (F : Hp) (a0 : Int32) (h : g_X2_isLetter F a0 = some (rx, F')) : PW X 0 0 F 0 [(0, .int a0)] [] := by
  have hO := hX.1
  unfold g_X2_isLetter at h
  refine pw_iload_n hO dX2_isLetter_0 0 rfl ?_
  refine pw_bipush hO dX2_isLetter_1 (v := 97) (by decide) ?_
  refine pw_icmp_eq (tgt := 12) hO dX2_isLetter_3 (by decide) h (fun c1 h => ?_) (fun c1 h => ?_)
  · refine pw_sub (lv1 := []) [] rfl ?_
    exact bl_X2_isLetter_b12 hX F h
  · refine pw_iload_n hO dX2_isLetter_6 0 rfl ?_
    refine pw_bipush hO dX2_isLetter_7 (v := 98) (by decide) ?_
    refine pw_icmp_ne (tgt := 16) hO dX2_isLetter_9 (by decide) h (fun c2 h => ?_) (fun c2 h => ?_)
    · refine pw_iconst hO dX2_isLetter_16 (v := 0) (by decide) ?_
      exact pw_zretc hO hX.2 dX2_isLetter_17 (Or.inl rfl) h
    · refine pw_sub (lv1 := []) [] rfl ?_
      exact bl_X2_isLetter_b12 hX F h
theorem ct_X2_isLetter {n : Nat} {F : Hp} {a0 : Int32} {rx : Int32} {F' : Hp} (h : g_X2_isLetter F a0 = some (rx, F')) : CT yX2_isLetter cX2_isLetter 1 (some FieldType.boolean) (rmd 0) n F [.int a0] (some (.int rx)) F' :=
  ct_intro (own := RX2) (nm := false) (by decide) rfl (fun h => by cases h) (Nat.le_of_ble_eq_true rfl) (fun X hn hX => bl_X2_isLetter hX F a0 h)
def g_X2_letters_b36 (rec4 : Hp → Nat → Int32 → Int32 → Option (Int32 × Hp)) (F : Hp) (v0 : Nat) (v1 : Int32) (v2 : Int32) : Option (Int32 × Hp) := rec4 F v0 v1 ((v2 + 1))
set_option maxHeartbeats 4000000 in
theorem bl_X2_letters_b36 {X : Cx} {rx : Int32} {F' : Hp} (hX : Md X cX2_letters RX2 3 (rmd 1) (some FieldType.int) false (some (.int rx)) F') (rec4 : Hp → Nat → Int32 → Int32 → Option (Int32 × Hp)) (hrec4 : ∀ (F : Hp) (v0 : Nat) (v1 : Int32) (v2 : Int32), rec4 F v0 v1 v2 = some (rx, F') → PW X 0 0 F 4 [(0, .ref v0), (1, .int v1), (2, .int v2)] []) (F : Hp) (v0 : Nat) (v1 : Int32) (v2 : Int32) (h : g_X2_letters_b36 rec4 F v0 v1 v2 = some (rx, F')) : PW X 0 0 F 36 [(0, .ref v0), (1, .int v1), (2, .int v2)] [] := by
  have hO := hX.1
  unfold g_X2_letters_b36 at h
  refine pw_iinc hO [(2, .int (v2 + 1)), (0, .ref v0), (1, .int v1)] dX2_letters_36 2 rfl rfl (by decide) rfl ?_
  refine pw_goto (tgt := 4) hO dX2_letters_39 (by decide) ?_
  refine pw_sub (lv1 := [(0, .ref v0), (1, .int v1), (2, .int (v2 + 1))]) [1, 2, 0] rfl ?_
  exact hrec4 F v0 v1 ((v2 + 1)) h
def g_X2_letters_b4 : Nat → Hp → Nat → Int32 → Int32 → Option (Int32 × Hp)
  | 0, _, _, _, _ => none
  | n + 1, F, v0, v1, v2 => ((gI F v0 2 2).bind fun x1 => (if x1 ≤ v2 then some (v1, F) else ((gR F v0 2 1).bind fun q3 => ((aN F q3).bind fun x4 => (if x4 ≤ v2 then some (v1, F) else ((gR F v0 2 1).bind fun q6 => ((aI F q6 0 v2).bind fun x7 => (bnd2 (g_X2_isLetter F x7) fun x9 F8 => (if x9 = 0 then g_X2_letters_b36 (g_X2_letters_b4 n) F8 v0 v1 v2 else g_X2_letters_b36 (g_X2_letters_b4 n) F8 v0 ((v1 + 1)) v2)))))))))
set_option maxHeartbeats 4000000 in
theorem bl_X2_letters_b4 {X : Cx} {rx : Int32} {F' : Hp} (hX : Md X cX2_letters RX2 3 (rmd 1) (some FieldType.int) false (some (.int rx)) F') : ∀ (n : Nat) (F : Hp) (v0 : Nat) (v1 : Int32) (v2 : Int32), g_X2_letters_b4 n F v0 v1 v2 = some (rx, F') → PW X 0 0 F 4 [(0, .ref v0), (1, .int v1), (2, .int v2)] [] := by
  have hO := hX.1
  intro n
  induction n with
  | zero => intro F v0 v1 v2 h; rw [g_X2_letters_b4] at h; cases h
  | succ n ih =>
    intro F v0 v1 v2 h
    rw [g_X2_letters_b4] at h
    refine pw_iload_n hO dX2_letters_4 2 rfl ?_
    refine pw_aload_n hO dX2_letters_5 0 rfl ?_
    refine pw_getI hO dX2_letters_6 fl_X2_22 h (fun x1 h => ?_)
    refine pw_icmp_ge (tgt := 42) hO dX2_letters_9 (by decide) h (fun c2 h => ?_) (fun c2 h => ?_)
    · refine pw_iload_n hO dX2_letters_42 1 rfl ?_
      exact pw_iret hO hX.2 dX2_letters_43 h
    · refine pw_iload_n hO dX2_letters_12 2 rfl ?_
      refine pw_aload_n hO dX2_letters_13 0 rfl ?_
      refine pw_getR hO dX2_letters_14 fl_X2_18 h (fun q3 h => ?_)
      refine pw_alen hO dX2_letters_17 h (fun x4 h => ?_)
      refine pw_icmp_ge (tgt := 42) hO dX2_letters_18 (by decide) h (fun c5 h => ?_) (fun c5 h => ?_)
      · refine pw_iload_n hO dX2_letters_42 1 rfl ?_
        exact pw_iret hO hX.2 dX2_letters_43 h
      · refine pw_aload_n hO dX2_letters_21 0 rfl ?_
        refine pw_getR hO dX2_letters_22 fl_X2_18 h (fun q6 h => ?_)
        refine pw_iload_n hO dX2_letters_25 2 rfl ?_
        refine pw_iald hO dX2_letters_26 h (fun x7 h => ?_)
        refine pw_SI (as := [.int x7]) (st := []) (d := 0) hO [.int x7] dX2_letters_27 sl_X2_67 h (fun r F1 hg n => ct_X2_isLetter hg) ⟨Nat.le_of_ble_eq_true rfl, Nat.le_of_ble_eq_true rfl⟩ ⟨Nat.zero_le _, Nat.zero_le _⟩ (Nat.le_of_ble_eq_true rfl) (fun _ _ => rfl) rfl (fun x9 F8 h => ?_)
        refine pw_if_eq (tgt := 36) hO dX2_letters_30 (by decide) h (fun c10 h => ?_) (fun c10 h => ?_)
        · refine pw_sub (lv1 := [(0, .ref v0), (1, .int v1), (2, .int v2)]) [0, 1, 2] rfl ?_
          exact bl_X2_letters_b36 hX (g_X2_letters_b4 n) ih F8 v0 v1 v2 h
        · refine pw_iinc hO [(1, .int (v1 + 1)), (0, .ref v0), (2, .int v2)] dX2_letters_33 1 rfl rfl (by decide) rfl ?_
          refine pw_sub (lv1 := [(0, .ref v0), (1, .int (v1 + 1)), (2, .int v2)]) [1, 0, 2] rfl ?_
          exact bl_X2_letters_b36 hX (g_X2_letters_b4 n) ih F8 v0 ((v1 + 1)) v2 h
def g_X2_letters (F : Hp) (a0 : Nat) : Option (Int32 × Hp) := g_X2_letters_b4 gF F a0 0 0
set_option maxHeartbeats 4000000 in
theorem bl_X2_letters {X : Cx} {rx : Int32} {F' : Hp} (hX : Md X cX2_letters RX2 3 (rmd 1) (some FieldType.int) false (some (.int rx)) F') (F : Hp) (a0 : Nat) (h : g_X2_letters F a0 = some (rx, F')) : PW X 0 0 F 0 [(0, .ref a0)] [] := by
  have hO := hX.1
  unfold g_X2_letters at h
  refine pw_iconst hO dX2_letters_0 (v := 0) (by decide) ?_
  refine pw_istore_n hO [(1, .int 0), (0, .ref a0)] dX2_letters_1 (by decide) rfl ?_
  refine pw_iconst hO dX2_letters_2 (v := 0) (by decide) ?_
  refine pw_istore_n hO [(2, .int 0), (1, .int 0), (0, .ref a0)] dX2_letters_3 (by decide) rfl ?_
  refine pw_sub (lv1 := [(0, .ref a0), (1, .int 0), (2, .int 0)]) [2, 1, 0] rfl ?_
  exact bl_X2_letters_b4 hX gF F a0 0 0 h
theorem ct_X2_letters {n : Nat} {F : Hp} {a0 : Nat} {rx : Int32} {F' : Hp} (h : g_X2_letters F a0 = some (rx, F')) : CT yX2_letters cX2_letters 3 (some FieldType.int) (rmd 1) n F [.ref a0] (some (.int rx)) F' :=
  ct_intro (own := RX2) (nm := false) (by decide) rfl (fun h => by cases h) (Nat.le_of_ble_eq_true rfl) (fun X hn hX => bl_X2_letters hX F a0 h)
def g_X2_bring (F : Hp) (a0 : Nat) (a1 : Int32) : Option Hp := (ckO F a0 1 (bnd2 (g_X1_receive F a0 (a1 - 97) 0) fun x2 F1 => (if x2 = 0 then ((gI F1 a0 1 13).bind fun x4 => ((pV F1 a0 1 13 (.int (x4 + 1))).bind fun F5 => some F5)) else some F1)))
set_option maxHeartbeats 4000000 in
theorem bl_X2_bring {X : Cx} {F' : Hp} (hX : Md X cX2_bring RX2 2 (rmd 2) none false none F') (F : Hp) (a0 : Nat) (a1 : Int32) (h : g_X2_bring F a0 a1 = some F') : PW X 0 0 F 0 [(0, .ref a0), (1, .int a1)] [] := by
  have hO := hX.1
  unfold g_X2_bring at h
  refine pw_aload_n hO dX2_bring_0 0 rfl ?_
  refine pw_iload_n hO dX2_bring_1 1 rfl ?_
  refine pw_bipush hO dX2_bring_2 (v := 97) (by decide) ?_
  refine pw_isub hO dX2_bring_4 ?_
  refine pw_iconst hO dX2_bring_5 (v := 0) (by decide) ?_
  refine pw_VI (a := a0) (ci := 1) (as := [.int (a1 - 97), .int 0]) (st := []) (d := 1) hO [.int 0, .int (a1 - 97), .ref a0] dX2_bring_6 vl_X2_79 h (fun r F1 hg n => ct_X1_receive hg) ⟨Nat.le_of_ble_eq_true rfl, Nat.le_of_ble_eq_true rfl⟩ ⟨Nat.zero_le _, Nat.zero_le _⟩ (Nat.le_of_ble_eq_true rfl) (fun _ _ => rfl) rfl (fun x2 F1 h => ?_)
  refine pw_if_ne (tgt := 22) hO dX2_bring_9 (by decide) h (fun c3 h => ?_) (fun c3 h => ?_)
  · exact pw_vret hO hX.2 dX2_bring_22 h
  · refine pw_aload_n hO dX2_bring_12 0 rfl ?_
    refine pw_dup hO dX2_bring_13 rfl ?_
    refine pw_getI hO dX2_bring_14 fl_X2_83 h (fun x4 h => ?_)
    refine pw_iconst hO dX2_bring_17 (v := 1) (by decide) ?_
    refine pw_iadd hO dX2_bring_18 ?_
    refine pw_putI hO dX2_bring_19 fp_X2_83 h (fun F5 h => ?_)
    exact pw_vret hO hX.2 dX2_bring_22 h
theorem ct_X2_bring {n : Nat} {F : Hp} {a0 : Nat} {a1 : Int32} {F' : Hp} (h : g_X2_bring F a0 a1 = some F') : CT yX2_bring cX2_bring 2 none (rmd 2) n F [.ref a0, .int a1] none F' :=
  ct_intro (own := RX2) (nm := false) (by decide) rfl (fun h => by cases h) (Nat.le_of_ble_eq_true rfl) (fun X hn hX => bl_X2_bring hX F a0 a1 h)
def g_X2_perform_b88 (rec5 : Hp → Nat → Nat → Int32 → Int32 → Int32 → Option Hp) (F : Hp) (v0 : Nat) (v1 : Nat) (v2 : Int32) (v3 : Int32) (v4 : Int32) : Option Hp := rec5 F v0 v1 v2 v3 ((v4 + 1))
set_option maxHeartbeats 4000000 in
theorem bl_X2_perform_b88 {X : Cx} {F' : Hp} (hX : Md X cX2_perform RX2 7 (rmd 4) none false none F') (rec5 : Hp → Nat → Nat → Int32 → Int32 → Int32 → Option Hp) (hrec5 : ∀ (F : Hp) (v0 : Nat) (v1 : Nat) (v2 : Int32) (v3 : Int32) (v4 : Int32), rec5 F v0 v1 v2 v3 v4 = some F' → PW X 0 0 F 5 [(0, .ref v0), (1, .ref v1), (2, .int v2), (3, .int v3), (4, .int v4)] []) (F : Hp) (v0 : Nat) (v1 : Nat) (v2 : Int32) (v3 : Int32) (v4 : Int32) (h : g_X2_perform_b88 rec5 F v0 v1 v2 v3 v4 = some F') : PW X 0 0 F 88 [(0, .ref v0), (1, .ref v1), (2, .int v2), (3, .int v3), (4, .int v4)] [] := by
  have hO := hX.1
  unfold g_X2_perform_b88 at h
  refine pw_iinc hO [(4, .int (v4 + 1)), (0, .ref v0), (1, .ref v1), (2, .int v2), (3, .int v3)] dX2_perform_88 4 rfl rfl (by decide) rfl ?_
  refine pw_goto (tgt := 5) hO dX2_perform_91 (by decide) ?_
  refine pw_sub (lv1 := [(0, .ref v0), (1, .ref v1), (2, .int v2), (3, .int v3), (4, .int (v4 + 1))]) [1, 2, 3, 4, 0] rfl ?_
  exact hrec5 F v0 v1 v2 v3 ((v4 + 1)) h
def g_X2_perform_b72 (rec5 : Hp → Nat → Nat → Int32 → Int32 → Int32 → Option Hp) (F : Hp) (v0 : Nat) (v1 : Nat) (v2 : Int32) (v3 : Int32) (v4 : Int32) (v5 : Int32) (s0 : Int32) : Option Hp := (if s0 = 0 then g_X2_perform_b88 rec5 F v0 v1 v2 ((v3 + 1)) v4 else ((g_X2_bring F v1 v5).bind fun F13 => g_X2_perform_b88 rec5 F13 v0 v1 v2 ((v3 + 1)) v4))
set_option maxHeartbeats 4000000 in
theorem bl_X2_perform_b72 {X : Cx} {F' : Hp} (hX : Md X cX2_perform RX2 7 (rmd 4) none false none F') (rec5 : Hp → Nat → Nat → Int32 → Int32 → Int32 → Option Hp) (hrec5 : ∀ (F : Hp) (v0 : Nat) (v1 : Nat) (v2 : Int32) (v3 : Int32) (v4 : Int32), rec5 F v0 v1 v2 v3 v4 = some F' → PW X 0 0 F 5 [(0, .ref v0), (1, .ref v1), (2, .int v2), (3, .int v3), (4, .int v4)] []) (F : Hp) (v0 : Nat) (v1 : Nat) (v2 : Int32) (v3 : Int32) (v4 : Int32) (v5 : Int32) (s0 : Int32) (h : g_X2_perform_b72 rec5 F v0 v1 v2 v3 v4 v5 s0 = some F') : PW X 0 0 F 72 [(0, .ref v0), (1, .ref v1), (2, .int v2), (3, .int v3), (4, .int v4), (5, .int v5)] [.int s0] := by
  have hO := hX.1
  unfold g_X2_perform_b72 at h
  refine pw_istore hO [(6, .int s0), (0, .ref v0), (1, .ref v1), (2, .int v2), (3, .int v3), (4, .int v4), (5, .int v5)] dX2_perform_72 (by decide) rfl ?_
  refine pw_iinc hO [(3, .int (v3 + 1)), (6, .int s0), (0, .ref v0), (1, .ref v1), (2, .int v2), (4, .int v4), (5, .int v5)] dX2_perform_74 4 rfl rfl (by decide) rfl ?_
  refine pw_iload hO dX2_perform_77 1 rfl ?_
  refine pw_if_eq (tgt := 88) hO dX2_perform_79 (by decide) h (fun c12 h => ?_) (fun c12 h => ?_)
  · refine pw_sub (lv1 := [(0, .ref v0), (1, .ref v1), (2, .int v2), (3, .int (v3 + 1)), (4, .int v4)]) [2, 3, 4, 0, 5] rfl ?_
    exact bl_X2_perform_b88 hX rec5 hrec5 F v0 v1 v2 ((v3 + 1)) v4 h
  · refine pw_aload_n hO dX2_perform_82 3 rfl ?_
    refine pw_iload hO dX2_perform_83 6 rfl ?_
    refine pw_S0 (as := [.ref v1, .int v5]) (st := []) (d := 2) hO [.int v5, .ref v1] dX2_perform_85 sl_X2_75 h (fun F1 hg n => ct_X2_bring hg) ⟨Nat.le_of_ble_eq_true rfl, Nat.le_of_ble_eq_true rfl⟩ ⟨Nat.zero_le _, Nat.zero_le _⟩ (Nat.le_of_ble_eq_true rfl) (fun _ _ => rfl) rfl (fun F13 h => ?_)
    refine pw_sub (lv1 := [(0, .ref v0), (1, .ref v1), (2, .int v2), (3, .int (v3 + 1)), (4, .int v4)]) [2, 3, 4, 0, 5] rfl ?_
    exact bl_X2_perform_b88 hX rec5 hrec5 F13 v0 v1 v2 ((v3 + 1)) v4 h
def g_X2_perform_b67 (rec5 : Hp → Nat → Nat → Int32 → Int32 → Int32 → Option Hp) (F : Hp) (v0 : Nat) (v1 : Nat) (v2 : Int32) (v3 : Int32) (v4 : Int32) (v5 : Int32) : Option Hp := g_X2_perform_b72 rec5 F v0 v1 v2 v3 v4 v5 1
set_option maxHeartbeats 4000000 in
theorem bl_X2_perform_b67 {X : Cx} {F' : Hp} (hX : Md X cX2_perform RX2 7 (rmd 4) none false none F') (rec5 : Hp → Nat → Nat → Int32 → Int32 → Int32 → Option Hp) (hrec5 : ∀ (F : Hp) (v0 : Nat) (v1 : Nat) (v2 : Int32) (v3 : Int32) (v4 : Int32), rec5 F v0 v1 v2 v3 v4 = some F' → PW X 0 0 F 5 [(0, .ref v0), (1, .ref v1), (2, .int v2), (3, .int v3), (4, .int v4)] []) (F : Hp) (v0 : Nat) (v1 : Nat) (v2 : Int32) (v3 : Int32) (v4 : Int32) (v5 : Int32) (h : g_X2_perform_b67 rec5 F v0 v1 v2 v3 v4 v5 = some F') : PW X 0 0 F 67 [(0, .ref v0), (1, .ref v1), (2, .int v2), (3, .int v3), (4, .int v4), (5, .int v5)] [] := by
  have hO := hX.1
  unfold g_X2_perform_b67 at h
  refine pw_iconst hO dX2_perform_67 (v := 1) (by decide) ?_
  refine pw_goto (tgt := 72) hO dX2_perform_68 (by decide) ?_
  refine pw_sub (lv1 := [(0, .ref v0), (1, .ref v1), (2, .int v2), (3, .int v3), (4, .int v4), (5, .int v5)]) [0, 1, 2, 3, 4, 5] rfl ?_
  exact bl_X2_perform_b72 hX rec5 hrec5 F v0 v1 v2 v3 v4 v5 1 h
def g_X2_perform_b5 : Nat → Hp → Nat → Nat → Int32 → Int32 → Int32 → Option Hp
  | 0, _, _, _, _, _, _ => none
  | n + 1, F, v0, v1, v2, v3, v4 => ((gI F v0 2 2).bind fun x1 => (if x1 ≤ v4 then some F else ((gR F v0 2 1).bind fun q3 => ((aN F q3).bind fun x4 => (if x4 ≤ v4 then some F else ((gR F v0 2 1).bind fun q6 => ((aI F q6 0 v4).bind fun x7 => (bnd2 (g_X2_isLetter F x7) fun x9 F8 => (if x9 = 0 then (ckO F8 v1 1 ((g_X1_elapse F8 v1 (x7 - 48)).bind fun F16 => g_X2_perform_b88 (g_X2_perform_b5 n) F16 v0 v1 v2 v3 v4)) else (if 6 ≤ v3 then g_X2_perform_b67 (g_X2_perform_b5 n) F8 v0 v1 v2 v3 v4 x7 else (if ((v2 >>> (v3 &&& 31)) &&& 1) = 0 then g_X2_perform_b67 (g_X2_perform_b5 n) F8 v0 v1 v2 v3 v4 x7 else g_X2_perform_b72 (g_X2_perform_b5 n) F8 v0 v1 v2 v3 v4 x7 0)))))))))))
set_option maxHeartbeats 4000000 in
theorem bl_X2_perform_b5 {X : Cx} {F' : Hp} (hX : Md X cX2_perform RX2 7 (rmd 4) none false none F') : ∀ (n : Nat) (F : Hp) (v0 : Nat) (v1 : Nat) (v2 : Int32) (v3 : Int32) (v4 : Int32), g_X2_perform_b5 n F v0 v1 v2 v3 v4 = some F' → PW X 0 0 F 5 [(0, .ref v0), (1, .ref v1), (2, .int v2), (3, .int v3), (4, .int v4)] [] := by
  have hO := hX.1
  intro n
  induction n with
  | zero => intro F v0 v1 v2 v3 v4 h; rw [g_X2_perform_b5] at h; cases h
  | succ n ih =>
    intro F v0 v1 v2 v3 v4 h
    rw [g_X2_perform_b5] at h
    refine pw_iload hO dX2_perform_5 4 rfl ?_
    refine pw_aload_n hO dX2_perform_7 0 rfl ?_
    refine pw_getI hO dX2_perform_8 fl_X2_22 h (fun x1 h => ?_)
    refine pw_icmp_ge (tgt := 94) hO dX2_perform_11 (by decide) h (fun c2 h => ?_) (fun c2 h => ?_)
    · exact pw_vret hO hX.2 dX2_perform_94 h
    · refine pw_iload hO dX2_perform_14 4 rfl ?_
      refine pw_aload_n hO dX2_perform_16 0 rfl ?_
      refine pw_getR hO dX2_perform_17 fl_X2_18 h (fun q3 h => ?_)
      refine pw_alen hO dX2_perform_20 h (fun x4 h => ?_)
      refine pw_icmp_ge (tgt := 94) hO dX2_perform_21 (by decide) h (fun c5 h => ?_) (fun c5 h => ?_)
      · exact pw_vret hO hX.2 dX2_perform_94 h
      · refine pw_aload_n hO dX2_perform_24 0 rfl ?_
        refine pw_getR hO dX2_perform_25 fl_X2_18 h (fun q6 h => ?_)
        refine pw_iload hO dX2_perform_28 4 rfl ?_
        refine pw_iald hO dX2_perform_30 h (fun x7 h => ?_)
        refine pw_istore hO [(5, .int x7), (0, .ref v0), (1, .ref v1), (2, .int v2), (3, .int v3), (4, .int v4)] dX2_perform_31 (by decide) rfl ?_
        refine pw_iload hO dX2_perform_33 0 rfl ?_
        refine pw_SI (as := [.int x7]) (st := []) (d := 0) hO [.int x7] dX2_perform_35 sl_X2_67 h (fun r F1 hg n => ct_X2_isLetter hg) ⟨Nat.le_of_ble_eq_true rfl, Nat.le_of_ble_eq_true rfl⟩ ⟨Nat.zero_le _, Nat.zero_le _⟩ (Nat.le_of_ble_eq_true rfl) (fun _ _ => rfl) rfl (fun x9 F8 h => ?_)
        refine pw_if_ne (tgt := 53) hO dX2_perform_38 (by decide) h (fun c10 h => ?_) (fun c10 h => ?_)
        · refine pw_iload_n hO dX2_perform_53 4 rfl ?_
          refine pw_bipush hO dX2_perform_54 (v := 6) (by decide) ?_
          refine pw_icmp_ge (tgt := 67) hO dX2_perform_56 (by decide) h (fun c11 h => ?_) (fun c11 h => ?_)
          · refine pw_sub (lv1 := [(0, .ref v0), (1, .ref v1), (2, .int v2), (3, .int v3), (4, .int v4), (5, .int x7)]) [1, 2, 3, 4, 5, 0] rfl ?_
            exact bl_X2_perform_b67 hX (g_X2_perform_b5 n) ih F8 v0 v1 v2 v3 v4 x7 h
          · refine pw_iload_n hO dX2_perform_59 3 rfl ?_
            refine pw_iload_n hO dX2_perform_60 4 rfl ?_
            refine pw_ishr hO dX2_perform_61 ?_
            refine pw_iconst hO dX2_perform_62 (v := 1) (by decide) ?_
            refine pw_iand hO dX2_perform_63 ?_
            refine pw_if_ne (tgt := 71) hO dX2_perform_64 (by decide) h (fun c15 h => ?_) (fun c15 h => ?_)
            · refine pw_iconst hO dX2_perform_71 (v := 0) (by decide) ?_
              refine pw_sub (lv1 := [(0, .ref v0), (1, .ref v1), (2, .int v2), (3, .int v3), (4, .int v4), (5, .int x7)]) [1, 2, 3, 4, 5, 0] rfl ?_
              exact bl_X2_perform_b72 hX (g_X2_perform_b5 n) ih F8 v0 v1 v2 v3 v4 x7 0 h
            · refine pw_sub (lv1 := [(0, .ref v0), (1, .ref v1), (2, .int v2), (3, .int v3), (4, .int v4), (5, .int x7)]) [1, 2, 3, 4, 5, 0] rfl ?_
              exact bl_X2_perform_b67 hX (g_X2_perform_b5 n) ih F8 v0 v1 v2 v3 v4 x7 h
        · refine pw_aload_n hO dX2_perform_41 2 rfl ?_
          refine pw_iload hO dX2_perform_42 0 rfl ?_
          refine pw_bipush hO dX2_perform_44 (v := 48) (by decide) ?_
          refine pw_isub hO dX2_perform_46 ?_
          refine pw_V0 (a := v1) (ci := 1) (as := [.int (x7 - 48)]) (st := []) (d := 3) hO [.int (x7 - 48), .ref v1] dX2_perform_47 vl_X2_71 h (fun F1 hg n => ct_X1_elapse hg) ⟨Nat.le_of_ble_eq_true rfl, Nat.le_of_ble_eq_true rfl⟩ ⟨Nat.zero_le _, Nat.zero_le _⟩ (Nat.le_of_ble_eq_true rfl) (fun _ _ => rfl) rfl (fun F16 h => ?_)
          refine pw_goto (tgt := 88) hO dX2_perform_50 (by decide) ?_
          refine pw_sub (lv1 := [(0, .ref v0), (1, .ref v1), (2, .int v2), (3, .int v3), (4, .int v4)]) [1, 2, 3, 4, 5] rfl ?_
          exact bl_X2_perform_b88 hX (g_X2_perform_b5 n) ih F16 v0 v1 v2 v3 v4 h
def g_X2_perform (F : Hp) (a0 : Nat) (a1 : Nat) (a2 : Int32) : Option Hp := g_X2_perform_b5 gF F a0 a1 a2 0 0
set_option maxHeartbeats 4000000 in
theorem bl_X2_perform {X : Cx} {F' : Hp} (hX : Md X cX2_perform RX2 7 (rmd 4) none false none F') (F : Hp) (a0 : Nat) (a1 : Nat) (a2 : Int32) (h : g_X2_perform F a0 a1 a2 = some F') : PW X 0 0 F 0 [(0, .ref a0), (1, .ref a1), (2, .int a2)] [] := by
  have hO := hX.1
  unfold g_X2_perform at h
  refine pw_iconst hO dX2_perform_0 (v := 0) (by decide) ?_
  refine pw_istore_n hO [(3, .int 0), (0, .ref a0), (1, .ref a1), (2, .int a2)] dX2_perform_1 (by decide) rfl ?_
  refine pw_iconst hO dX2_perform_2 (v := 0) (by decide) ?_
  refine pw_istore hO [(4, .int 0), (3, .int 0), (0, .ref a0), (1, .ref a1), (2, .int a2)] dX2_perform_3 (by decide) rfl ?_
  refine pw_sub (lv1 := [(0, .ref a0), (1, .ref a1), (2, .int a2), (3, .int 0), (4, .int 0)]) [2, 3, 4, 1, 0] rfl ?_
  exact bl_X2_perform_b5 hX gF F a0 a1 a2 0 0 h
theorem ct_X2_perform {n : Nat} {F : Hp} {a0 : Nat} {a1 : Nat} {a2 : Int32} {F' : Hp} (h : g_X2_perform F a0 a1 a2 = some F') : CT yX2_perform cX2_perform 7 none (rmd 4) n F [.ref a0, .ref a1, .int a2] none F' :=
  ct_intro (own := RX2) (nm := false) (by decide) rfl (fun h => by cases h) (Nat.le_of_ble_eq_true rfl) (fun X hn hX => bl_X2_perform hX F a0 a1 a2 h)
def g_X2_performTill_b76 (F : Hp) (v1 : Nat) (v2 : Int32) : Option Hp := ((gI F v1 1 8).bind fun x3 => (ckO F v1 1 ((g_X1_elapse F v1 (v2 - x3)).bind fun F4 => some F4)))
set_option maxHeartbeats 4000000 in
theorem bl_X2_performTill_b76 {X : Cx} {F' : Hp} (hX : Md X cX2_performTill RX2 5 (rmd 4) none false none F') (F : Hp) (v1 : Nat) (v2 : Int32) (h : g_X2_performTill_b76 F v1 v2 = some F') : PW X 0 0 F 76 [(1, .ref v1), (2, .int v2)] [] := by
  have hO := hX.1
  unfold g_X2_performTill_b76 at h
  refine pw_aload_n hO dX2_performTill_76 0 rfl ?_
  refine pw_iload_n hO dX2_performTill_77 1 rfl ?_
  refine pw_aload_n hO dX2_performTill_78 0 rfl ?_
  refine pw_getI hO dX2_performTill_79 fl_X2_86 h (fun x3 h => ?_)
  refine pw_isub hO dX2_performTill_82 ?_
  refine pw_V0 (a := v1) (ci := 1) (as := [.int (v2 - x3)]) (st := []) (d := 3) hO [.int (v2 - x3), .ref v1] dX2_performTill_83 vl_X2_71 h (fun F1 hg n => ct_X1_elapse hg) ⟨Nat.le_of_ble_eq_true rfl, Nat.le_of_ble_eq_true rfl⟩ ⟨Nat.zero_le _, Nat.zero_le _⟩ (Nat.le_of_ble_eq_true rfl) (fun _ _ => rfl) rfl (fun F4 h => ?_)
  exact pw_vret hO hX.2 dX2_performTill_86 h
def g_X2_performTill_b70 (rec2 : Hp → Nat → Nat → Int32 → Int32 → Option Hp) (F : Hp) (v0 : Nat) (v1 : Nat) (v2 : Int32) (v3 : Int32) : Option Hp := rec2 F v0 v1 v2 ((v3 + 1))
set_option maxHeartbeats 4000000 in
theorem bl_X2_performTill_b70 {X : Cx} {F' : Hp} (hX : Md X cX2_performTill RX2 5 (rmd 4) none false none F') (rec2 : Hp → Nat → Nat → Int32 → Int32 → Option Hp) (hrec2 : ∀ (F : Hp) (v0 : Nat) (v1 : Nat) (v2 : Int32) (v3 : Int32), rec2 F v0 v1 v2 v3 = some F' → PW X 0 0 F 2 [(0, .ref v0), (1, .ref v1), (2, .int v2), (3, .int v3)] []) (F : Hp) (v0 : Nat) (v1 : Nat) (v2 : Int32) (v3 : Int32) (h : g_X2_performTill_b70 rec2 F v0 v1 v2 v3 = some F') : PW X 0 0 F 70 [(0, .ref v0), (1, .ref v1), (2, .int v2), (3, .int v3)] [] := by
  have hO := hX.1
  unfold g_X2_performTill_b70 at h
  refine pw_iinc hO [(3, .int (v3 + 1)), (0, .ref v0), (1, .ref v1), (2, .int v2)] dX2_performTill_70 3 rfl rfl (by decide) rfl ?_
  refine pw_goto (tgt := 2) hO dX2_performTill_73 (by decide) ?_
  refine pw_sub (lv1 := [(0, .ref v0), (1, .ref v1), (2, .int v2), (3, .int (v3 + 1))]) [1, 2, 3, 0] rfl ?_
  exact hrec2 F v0 v1 v2 ((v3 + 1)) h
def g_X2_performTill_b2 : Nat → Hp → Nat → Nat → Int32 → Int32 → Option Hp
  | 0, _, _, _, _, _ => none
  | n + 1, F, v0, v1, v2, v3 => ((gI F v0 2 2).bind fun x1 => (if x1 ≤ v3 then g_X2_performTill_b76 F v1 v2 else ((gR F v0 2 1).bind fun q6 => ((aN F q6).bind fun x7 => (if x7 ≤ v3 then g_X2_performTill_b76 F v1 v2 else ((gI F v1 1 8).bind fun x9 => (if v2 ≤ x9 then g_X2_performTill_b76 F v1 v2 else ((gR F v0 2 1).bind fun q11 => ((aI F q11 0 v3).bind fun x12 => (bnd2 (g_X2_isLetter F x12) fun x14 F13 => (if x14 = 0 then ((gI F13 v1 1 8).bind fun x16 => (ckO F13 v1 1 ((g_X1_elapse F13 v1 (jmin (x12 - 48) (v2 - x16))).bind fun F17 => g_X2_performTill_b70 (g_X2_performTill_b2 n) F17 v0 v1 v2 v3))) else ((g_X2_bring F13 v1 x12).bind fun F19 => g_X2_performTill_b70 (g_X2_performTill_b2 n) F19 v0 v1 v2 v3))))))))))))
set_option maxHeartbeats 4000000 in
theorem bl_X2_performTill_b2 {X : Cx} {F' : Hp} (hX : Md X cX2_performTill RX2 5 (rmd 4) none false none F') : ∀ (n : Nat) (F : Hp) (v0 : Nat) (v1 : Nat) (v2 : Int32) (v3 : Int32), g_X2_performTill_b2 n F v0 v1 v2 v3 = some F' → PW X 0 0 F 2 [(0, .ref v0), (1, .ref v1), (2, .int v2), (3, .int v3)] [] := by
  have hO := hX.1
  intro n
  induction n with
  | zero => intro F v0 v1 v2 v3 h; rw [g_X2_performTill_b2] at h; cases h
  | succ n ih =>
    intro F v0 v1 v2 v3 h
    rw [g_X2_performTill_b2] at h
    refine pw_iload_n hO dX2_performTill_2 3 rfl ?_
    refine pw_aload_n hO dX2_performTill_3 0 rfl ?_
    refine pw_getI hO dX2_performTill_4 fl_X2_22 h (fun x1 h => ?_)
    refine pw_icmp_ge (tgt := 76) hO dX2_performTill_7 (by decide) h (fun c2 h => ?_) (fun c2 h => ?_)
    · refine pw_sub (lv1 := [(1, .ref v1), (2, .int v2)]) [1, 2] rfl ?_
      exact bl_X2_performTill_b76 hX F v1 v2 h
    · refine pw_iload_n hO dX2_performTill_10 3 rfl ?_
      refine pw_aload_n hO dX2_performTill_11 0 rfl ?_
      refine pw_getR hO dX2_performTill_12 fl_X2_18 h (fun q6 h => ?_)
      refine pw_alen hO dX2_performTill_15 h (fun x7 h => ?_)
      refine pw_icmp_ge (tgt := 76) hO dX2_performTill_16 (by decide) h (fun c8 h => ?_) (fun c8 h => ?_)
      · refine pw_sub (lv1 := [(1, .ref v1), (2, .int v2)]) [1, 2] rfl ?_
        exact bl_X2_performTill_b76 hX F v1 v2 h
      · refine pw_aload_n hO dX2_performTill_19 1 rfl ?_
        refine pw_getI hO dX2_performTill_20 fl_X2_86 h (fun x9 h => ?_)
        refine pw_iload_n hO dX2_performTill_23 2 rfl ?_
        refine pw_icmp_ge (tgt := 76) hO dX2_performTill_24 (by decide) h (fun c10 h => ?_) (fun c10 h => ?_)
        · refine pw_sub (lv1 := [(1, .ref v1), (2, .int v2)]) [1, 2] rfl ?_
          exact bl_X2_performTill_b76 hX F v1 v2 h
        · refine pw_aload_n hO dX2_performTill_27 0 rfl ?_
          refine pw_getR hO dX2_performTill_28 fl_X2_18 h (fun q11 h => ?_)
          refine pw_iload_n hO dX2_performTill_31 3 rfl ?_
          refine pw_iald hO dX2_performTill_32 h (fun x12 h => ?_)
          refine pw_istore hO [(4, .int x12), (0, .ref v0), (1, .ref v1), (2, .int v2), (3, .int v3)] dX2_performTill_33 (by decide) rfl ?_
          refine pw_iload hO dX2_performTill_35 0 rfl ?_
          refine pw_SI (as := [.int x12]) (st := []) (d := 0) hO [.int x12] dX2_performTill_37 sl_X2_67 h (fun r F1 hg n => ct_X2_isLetter hg) ⟨Nat.le_of_ble_eq_true rfl, Nat.le_of_ble_eq_true rfl⟩ ⟨Nat.zero_le _, Nat.zero_le _⟩ (Nat.le_of_ble_eq_true rfl) (fun _ _ => rfl) rfl (fun x14 F13 h => ?_)
          refine pw_if_eq (tgt := 52) hO dX2_performTill_40 (by decide) h (fun c15 h => ?_) (fun c15 h => ?_)
          · refine pw_aload_n hO dX2_performTill_52 2 rfl ?_
            refine pw_iload hO dX2_performTill_53 0 rfl ?_
            refine pw_bipush hO dX2_performTill_55 (v := 48) (by decide) ?_
            refine pw_isub hO dX2_performTill_57 ?_
            refine pw_iload_n hO dX2_performTill_58 3 rfl ?_
            refine pw_aload_n hO dX2_performTill_59 2 rfl ?_
            refine pw_getI hO dX2_performTill_60 fl_X2_86 h (fun x16 h => ?_)
            refine pw_isub hO dX2_performTill_63 ?_
            refine pw_mmin (st := [.ref v1]) hO dX2_performTill_64 mt_X2_89 (Nat.le_of_ble_eq_true rfl) (Nat.le_of_ble_eq_true rfl) ⟨Nat.zero_le _, Nat.zero_le _⟩ (Nat.le_of_ble_eq_true rfl) ?_
            refine pw_V0 (a := v1) (ci := 1) (as := [.int (jmin (x12 - 48) (v2 - x16))]) (st := []) (d := 3) hO [.int (jmin (x12 - 48) (v2 - x16)), .ref v1] dX2_performTill_67 vl_X2_71 h (fun F1 hg n => ct_X1_elapse hg) ⟨Nat.le_of_ble_eq_true rfl, Nat.le_of_ble_eq_true rfl⟩ ⟨Nat.zero_le _, Nat.zero_le _⟩ (Nat.le_of_ble_eq_true rfl) (fun _ _ => rfl) rfl (fun F17 h => ?_)
            refine pw_sub (lv1 := [(0, .ref v0), (1, .ref v1), (2, .int v2), (3, .int v3)]) [1, 2, 3, 4] rfl ?_
            exact bl_X2_performTill_b70 hX (g_X2_performTill_b2 n) ih F17 v0 v1 v2 v3 h
          · refine pw_aload_n hO dX2_performTill_43 2 rfl ?_
            refine pw_iload hO dX2_performTill_44 0 rfl ?_
            refine pw_S0 (as := [.ref v1, .int x12]) (st := []) (d := 2) hO [.int x12, .ref v1] dX2_performTill_46 sl_X2_75 h (fun F1 hg n => ct_X2_bring hg) ⟨Nat.le_of_ble_eq_true rfl, Nat.le_of_ble_eq_true rfl⟩ ⟨Nat.zero_le _, Nat.zero_le _⟩ (Nat.le_of_ble_eq_true rfl) (fun _ _ => rfl) rfl (fun F19 h => ?_)
            refine pw_goto (tgt := 70) hO dX2_performTill_49 (by decide) ?_
            refine pw_sub (lv1 := [(0, .ref v0), (1, .ref v1), (2, .int v2), (3, .int v3)]) [1, 2, 3, 4] rfl ?_
            exact bl_X2_performTill_b70 hX (g_X2_performTill_b2 n) ih F19 v0 v1 v2 v3 h
def g_X2_performTill (F : Hp) (a0 : Nat) (a1 : Nat) (a2 : Int32) : Option Hp := g_X2_performTill_b2 gF F a0 a1 a2 0
set_option maxHeartbeats 4000000 in
theorem bl_X2_performTill {X : Cx} {F' : Hp} (hX : Md X cX2_performTill RX2 5 (rmd 4) none false none F') (F : Hp) (a0 : Nat) (a1 : Nat) (a2 : Int32) (h : g_X2_performTill F a0 a1 a2 = some F') : PW X 0 0 F 0 [(0, .ref a0), (1, .ref a1), (2, .int a2)] [] := by
  have hO := hX.1
  unfold g_X2_performTill at h
  refine pw_iconst hO dX2_performTill_0 (v := 0) (by decide) ?_
  refine pw_istore_n hO [(3, .int 0), (0, .ref a0), (1, .ref a1), (2, .int a2)] dX2_performTill_1 (by decide) rfl ?_
  refine pw_sub (lv1 := [(0, .ref a0), (1, .ref a1), (2, .int a2), (3, .int 0)]) [1, 2, 3, 0] rfl ?_
  exact bl_X2_performTill_b2 hX gF F a0 a1 a2 0 h
theorem ct_X2_performTill {n : Nat} {F : Hp} {a0 : Nat} {a1 : Nat} {a2 : Int32} {F' : Hp} (h : g_X2_performTill F a0 a1 a2 = some F') : CT yX2_performTill cX2_performTill 5 none (rmd 4) n F [.ref a0, .ref a1, .int a2] none F' :=
  ct_intro (own := RX2) (nm := false) (by decide) rfl (fun h => by cases h) (Nat.le_of_ble_eq_true rfl) (fun X hn hX => bl_X2_performTill hX F a0 a1 a2 h)
