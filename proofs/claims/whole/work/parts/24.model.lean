def g_X8_in (F : Hp) (a0 : Int64) (a1 : Int64) (a2 : Int64) : Option (Int32 × Hp) := (if (lg_cmp a0 a1) < 0 then some (0, F) else (if 0 < (lg_cmp a0 a2) then some (0, F) else some (1, F)))
set_option maxHeartbeats 4000000 in
theorem bl_X8_in {X : Cx} {rx : Int32} {F' : Hp} (hX : Md X cX8_in RX8 6 (rmd 0) (some FieldType.boolean) false (some (.int rx)) F') (F : Hp) (a0 : Int64) (a1 : Int64) (a2 : Int64) (h : g_X8_in F a0 a1 a2 = some (rx, F')) : PW X 0 0 F 0 [(0, .long a0), (2, .long a1), (4, .long a2)] [] := by
  have hO := hX.1
  unfold g_X8_in at h
  refine pw_lload_n hO dX8_in_0 0 rfl ?_
  refine pw_lload_n hO dX8_in_1 1 rfl ?_
  refine pw_lcmp hO dX8_in_2 ?_
  refine pw_if_lt (tgt := 17) hO dX8_in_3 (by decide) h (fun c1 h => ?_) (fun c1 h => ?_)
  · refine pw_iconst hO dX8_in_17 (v := 0) (by decide) ?_
    exact pw_zretc hO hX.2 dX8_in_18 (Or.inl rfl) h
  · refine pw_lload_n hO dX8_in_6 0 rfl ?_
    refine pw_lload hO dX8_in_7 2 rfl ?_
    refine pw_lcmp hO dX8_in_9 ?_
    refine pw_if_gt (tgt := 17) hO dX8_in_10 (by decide) h (fun c2 h => ?_) (fun c2 h => ?_)
    · refine pw_iconst hO dX8_in_17 (v := 0) (by decide) ?_
      exact pw_zretc hO hX.2 dX8_in_18 (Or.inl rfl) h
    · refine pw_iconst hO dX8_in_13 (v := 1) (by decide) ?_
      refine pw_goto (tgt := 18) hO dX8_in_14 (by decide) ?_
      exact pw_zretc hO hX.2 dX8_in_18 (Or.inr rfl) h
theorem ct_X8_in {n : Nat} {F : Hp} {a0 : Int64} {a1 : Int64} {a2 : Int64} {rx : Int32} {F' : Hp} (h : g_X8_in F a0 a1 a2 = some (rx, F')) : CT yX8_in cX8_in 6 (some FieldType.boolean) (rmd 0) n F [.long a0, .long a1, .long a2] (some (.int rx)) F' :=
  ct_intro (own := RX8) (nm := false) (by decide) rfl (fun h => by cases h) (Nat.le_of_ble_eq_true rfl) (fun X hn hX => bl_X8_in hX F a0 a1 a2 h)
def g_X8_has (F : Hp) (a0 : Int32) (a1 : Int32) : Option (Int32 × Hp) := (if ((a0 >>> (a1 &&& 31)) &&& 1) = 1 then some (1, F) else some (0, F))
set_option maxHeartbeats 4000000 in
theorem bl_X8_has {X : Cx} {rx : Int32} {F' : Hp} (hX : Md X cX8_has RX8 2 (rmd 0) (some FieldType.boolean) false (some (.int rx)) F') (F : Hp) (a0 : Int32) (a1 : Int32) (h : g_X8_has F a0 a1 = some (rx, F')) : PW X 0 0 F 0 [(0, .int a0), (1, .int a1)] [] := by
  have hO := hX.1
  unfold g_X8_has at h
  refine pw_iload_n hO dX8_has_0 0 rfl ?_
  refine pw_iload_n hO dX8_has_1 1 rfl ?_
  refine pw_ishr hO dX8_has_2 ?_
  refine pw_iconst hO dX8_has_3 (v := 1) (by decide) ?_
  refine pw_iand hO dX8_has_4 ?_
  refine pw_iconst hO dX8_has_5 (v := 1) (by decide) ?_
  refine pw_icmp_ne (tgt := 13) hO dX8_has_6 (by decide) h (fun c1 h => ?_) (fun c1 h => ?_)
  · refine pw_iconst hO dX8_has_13 (v := 0) (by decide) ?_
    exact pw_zretc hO hX.2 dX8_has_14 (Or.inl rfl) h
  · refine pw_iconst hO dX8_has_9 (v := 1) (by decide) ?_
    refine pw_goto (tgt := 14) hO dX8_has_10 (by decide) ?_
    exact pw_zretc hO hX.2 dX8_has_14 (Or.inr rfl) h
theorem ct_X8_has {n : Nat} {F : Hp} {a0 : Int32} {a1 : Int32} {rx : Int32} {F' : Hp} (h : g_X8_has F a0 a1 = some (rx, F')) : CT yX8_has cX8_has 2 (some FieldType.boolean) (rmd 0) n F [.int a0, .int a1] (some (.int rx)) F' :=
  ct_intro (own := RX8) (nm := false) (by decide) rfl (fun h => by cases h) (Nat.le_of_ble_eq_true rfl) (fun X hn hX => bl_X8_has hX F a0 a1 h)
def g_X8_ones_b4 : Nat → Hp → Int32 → Int32 → Int32 → Option (Int32 × Hp)
  | 0, _, _, _, _ => none
  | n + 1, F, v0, v1, v2 => (if 12 ≤ v2 then some (v1, F) else g_X8_ones_b4 n F v0 ((v1 + ((v0 >>> (v2 &&& 31)) &&& 1))) ((v2 + 1)))
set_option maxHeartbeats 4000000 in
theorem bl_X8_ones_b4 {X : Cx} {rx : Int32} {F' : Hp} (hX : Md X cX8_ones RX8 3 (rmd 0) (some FieldType.int) false (some (.int rx)) F') : ∀ (n : Nat) (F : Hp) (v0 : Int32) (v1 : Int32) (v2 : Int32), g_X8_ones_b4 n F v0 v1 v2 = some (rx, F') → PW X 0 0 F 4 [(0, .int v0), (1, .int v1), (2, .int v2)] [] := by
  have hO := hX.1
  intro n
  induction n with
  | zero => intro F v0 v1 v2 h; rw [g_X8_ones_b4] at h; cases h
  | succ n ih =>
    intro F v0 v1 v2 h
    rw [g_X8_ones_b4] at h
    refine pw_iload_n hO dX8_ones_4 2 rfl ?_
    refine pw_bipush hO dX8_ones_5 (v := 12) (by decide) ?_
    refine pw_icmp_ge (tgt := 24) hO dX8_ones_7 (by decide) h (fun c1 h => ?_) (fun c1 h => ?_)
    · refine pw_iload_n hO dX8_ones_24 1 rfl ?_
      exact pw_iret hO hX.2 dX8_ones_25 h
    · refine pw_iload_n hO dX8_ones_10 1 rfl ?_
      refine pw_iload_n hO dX8_ones_11 0 rfl ?_
      refine pw_iload_n hO dX8_ones_12 2 rfl ?_
      refine pw_ishr hO dX8_ones_13 ?_
      refine pw_iconst hO dX8_ones_14 (v := 1) (by decide) ?_
      refine pw_iand hO dX8_ones_15 ?_
      refine pw_iadd hO dX8_ones_16 ?_
      refine pw_istore_n hO [(1, .int (v1 + ((v0 >>> (v2 &&& 31)) &&& 1))), (0, .int v0), (2, .int v2)] dX8_ones_17 (by decide) rfl ?_
      refine pw_iinc hO [(2, .int (v2 + 1)), (1, .int (v1 + ((v0 >>> (v2 &&& 31)) &&& 1))), (0, .int v0)] dX8_ones_18 2 rfl rfl (by decide) rfl ?_
      refine pw_goto (tgt := 4) hO dX8_ones_21 (by decide) ?_
      refine pw_sub (lv1 := [(0, .int v0), (1, .int (v1 + ((v0 >>> (v2 &&& 31)) &&& 1))), (2, .int (v2 + 1))]) [2, 1, 0] rfl ?_
      exact ih F v0 ((v1 + ((v0 >>> (v2 &&& 31)) &&& 1))) ((v2 + 1)) h
def g_X8_ones (F : Hp) (a0 : Int32) : Option (Int32 × Hp) := g_X8_ones_b4 gF F a0 0 0
set_option maxHeartbeats 4000000 in
theorem bl_X8_ones {X : Cx} {rx : Int32} {F' : Hp} (hX : Md X cX8_ones RX8 3 (rmd 0) (some FieldType.int) false (some (.int rx)) F') (F : Hp) (a0 : Int32) (h : g_X8_ones F a0 = some (rx, F')) : PW X 0 0 F 0 [(0, .int a0)] [] := by
  have hO := hX.1
  unfold g_X8_ones at h
  refine pw_iconst hO dX8_ones_0 (v := 0) (by decide) ?_
  refine pw_istore_n hO [(1, .int 0), (0, .int a0)] dX8_ones_1 (by decide) rfl ?_
  refine pw_iconst hO dX8_ones_2 (v := 0) (by decide) ?_
  refine pw_istore_n hO [(2, .int 0), (1, .int 0), (0, .int a0)] dX8_ones_3 (by decide) rfl ?_
  refine pw_sub (lv1 := [(0, .int a0), (1, .int 0), (2, .int 0)]) [2, 1, 0] rfl ?_
  exact bl_X8_ones_b4 hX gF F a0 0 0 h
theorem ct_X8_ones {n : Nat} {F : Hp} {a0 : Int32} {rx : Int32} {F' : Hp} (h : g_X8_ones F a0 = some (rx, F')) : CT yX8_ones cX8_ones 3 (some FieldType.int) (rmd 0) n F [.int a0] (some (.int rx)) F' :=
  ct_intro (own := RX8) (nm := false) (by decide) rfl (fun h => by cases h) (Nat.le_of_ble_eq_true rfl) (fun X hn hX => bl_X8_ones hX F a0 h)
def g_X8_power_b4 : Nat → Hp → Int32 → Int32 → Int32 → Int32 → Option (Int32 × Hp)
  | 0, _, _, _, _, _ => none
  | n + 1, F, v0, v1, v2, v3 => (if v1 ≤ v3 then some (v2, F) else g_X8_power_b4 n F v0 v1 ((v2 * v0)) ((v3 + 1)))
set_option maxHeartbeats 4000000 in
theorem bl_X8_power_b4 {X : Cx} {rx : Int32} {F' : Hp} (hX : Md X cX8_power RX8 4 (rmd 0) (some FieldType.int) false (some (.int rx)) F') : ∀ (n : Nat) (F : Hp) (v0 : Int32) (v1 : Int32) (v2 : Int32) (v3 : Int32), g_X8_power_b4 n F v0 v1 v2 v3 = some (rx, F') → PW X 0 0 F 4 [(0, .int v0), (1, .int v1), (2, .int v2), (3, .int v3)] [] := by
  have hO := hX.1
  intro n
  induction n with
  | zero => intro F v0 v1 v2 v3 h; rw [g_X8_power_b4] at h; cases h
  | succ n ih =>
    intro F v0 v1 v2 v3 h
    rw [g_X8_power_b4] at h
    refine pw_iload_n hO dX8_power_4 3 rfl ?_
    refine pw_iload_n hO dX8_power_5 1 rfl ?_
    refine pw_icmp_ge (tgt := 19) hO dX8_power_6 (by decide) h (fun c1 h => ?_) (fun c1 h => ?_)
    · refine pw_iload_n hO dX8_power_19 2 rfl ?_
      exact pw_iret hO hX.2 dX8_power_20 h
    · refine pw_iload_n hO dX8_power_9 2 rfl ?_
      refine pw_iload_n hO dX8_power_10 0 rfl ?_
      refine pw_imul hO dX8_power_11 ?_
      refine pw_istore_n hO [(2, .int (v2 * v0)), (0, .int v0), (1, .int v1), (3, .int v3)] dX8_power_12 (by decide) rfl ?_
      refine pw_iinc hO [(3, .int (v3 + 1)), (2, .int (v2 * v0)), (0, .int v0), (1, .int v1)] dX8_power_13 3 rfl rfl (by decide) rfl ?_
      refine pw_goto (tgt := 4) hO dX8_power_16 (by decide) ?_
      refine pw_sub (lv1 := [(0, .int v0), (1, .int v1), (2, .int (v2 * v0)), (3, .int (v3 + 1))]) [2, 3, 1, 0] rfl ?_
      exact ih F v0 v1 ((v2 * v0)) ((v3 + 1)) h
def g_X8_power (F : Hp) (a0 : Int32) (a1 : Int32) : Option (Int32 × Hp) := g_X8_power_b4 gF F a0 a1 1 0
set_option maxHeartbeats 4000000 in
theorem bl_X8_power {X : Cx} {rx : Int32} {F' : Hp} (hX : Md X cX8_power RX8 4 (rmd 0) (some FieldType.int) false (some (.int rx)) F') (F : Hp) (a0 : Int32) (a1 : Int32) (h : g_X8_power F a0 a1 = some (rx, F')) : PW X 0 0 F 0 [(0, .int a0), (1, .int a1)] [] := by
  have hO := hX.1
  unfold g_X8_power at h
  refine pw_iconst hO dX8_power_0 (v := 1) (by decide) ?_
  refine pw_istore_n hO [(2, .int 1), (0, .int a0), (1, .int a1)] dX8_power_1 (by decide) rfl ?_
  refine pw_iconst hO dX8_power_2 (v := 0) (by decide) ?_
  refine pw_istore_n hO [(3, .int 0), (2, .int 1), (0, .int a0), (1, .int a1)] dX8_power_3 (by decide) rfl ?_
  refine pw_sub (lv1 := [(0, .int a0), (1, .int a1), (2, .int 1), (3, .int 0)]) [2, 3, 1, 0] rfl ?_
  exact bl_X8_power_b4 hX gF F a0 a1 1 0 h
theorem ct_X8_power {n : Nat} {F : Hp} {a0 : Int32} {a1 : Int32} {rx : Int32} {F' : Hp} (h : g_X8_power F a0 a1 = some (rx, F')) : CT yX8_power cX8_power 4 (some FieldType.int) (rmd 0) n F [.int a0, .int a1] (some (.int rx)) F' :=
  ct_intro (own := RX8) (nm := false) (by decide) rfl (fun h => by cases h) (Nat.le_of_ble_eq_true rfl) (fun X hn hX => bl_X8_power hX F a0 a1 h)
def g_X8_layFirst_b37 (rec30 : Hp → Nat → Int32 → Option Hp) : Nat → Hp → Nat → Int32 → Int32 → Option Hp
  | 0, _, _, _, _ => none
  | n + 1, F, v0, v1, v2 => (if 4 ≤ v2 then rec30 F v0 ((v1 + 1)) else ((sI F v0 0 ((11 + (14 * v1)) + v2) 1).bind fun F6 => g_X8_layFirst_b37 rec30 n F6 v0 v1 ((v2 + 1))))
set_option maxHeartbeats 4000000 in
theorem bl_X8_layFirst_b37 {X : Cx} {F' : Hp} (hX : Md X cX8_layFirst RX8 3 (rmd 0) none false none F') (rec30 : Hp → Nat → Int32 → Option Hp) (hrec30 : ∀ (F : Hp) (v0 : Nat) (v1 : Int32), rec30 F v0 v1 = some F' → PW X 0 0 F 30 [(0, .ref v0), (1, .int v1)] []) : ∀ (n : Nat) (F : Hp) (v0 : Nat) (v1 : Int32) (v2 : Int32), g_X8_layFirst_b37 rec30 n F v0 v1 v2 = some F' → PW X 0 0 F 37 [(0, .ref v0), (1, .int v1), (2, .int v2)] [] := by
  have hO := hX.1
  intro n
  induction n with
  | zero => intro F v0 v1 v2 h; rw [g_X8_layFirst_b37] at h; cases h
  | succ n ih =>
    intro F v0 v1 v2 h
    rw [g_X8_layFirst_b37] at h
    refine pw_iload_n hO dX8_layFirst_37 2 rfl ?_
    refine pw_iconst hO dX8_layFirst_38 (v := 4) (by decide) ?_
    refine pw_icmp_ge (tgt := 60) hO dX8_layFirst_39 (by decide) h (fun c5 h => ?_) (fun c5 h => ?_)
    · refine pw_iinc hO [(1, .int (v1 + 1)), (0, .ref v0), (2, .int v2)] dX8_layFirst_60 1 rfl rfl (by decide) rfl ?_
      refine pw_goto (tgt := 30) hO dX8_layFirst_63 (by decide) ?_
      refine pw_sub (lv1 := [(0, .ref v0), (1, .int (v1 + 1))]) [1, 0] rfl ?_
      exact hrec30 F v0 ((v1 + 1)) h
    · refine pw_aload_n hO dX8_layFirst_42 0 rfl ?_
      refine pw_bipush hO dX8_layFirst_43 (v := 11) (by decide) ?_
      refine pw_bipush hO dX8_layFirst_45 (v := 14) (by decide) ?_
      refine pw_iload_n hO dX8_layFirst_47 1 rfl ?_
      refine pw_imul hO dX8_layFirst_48 ?_
      refine pw_iadd hO dX8_layFirst_49 ?_
      refine pw_iload_n hO dX8_layFirst_50 2 rfl ?_
      refine pw_iadd hO dX8_layFirst_51 ?_
      refine pw_iconst hO dX8_layFirst_52 (v := 1) (by decide) ?_
      refine pw_iast hO dX8_layFirst_53 h (fun F6 h => ?_)
      refine pw_iinc hO [(2, .int (v2 + 1)), (0, .ref v0), (1, .int v1)] dX8_layFirst_54 2 rfl rfl (by decide) rfl ?_
      refine pw_goto (tgt := 37) hO dX8_layFirst_57 (by decide) ?_
      refine pw_sub (lv1 := [(0, .ref v0), (1, .int v1), (2, .int (v2 + 1))]) [1, 2, 0] rfl ?_
      exact ih F6 v0 v1 ((v2 + 1)) h
def g_X8_layFirst_b30 : Nat → Hp → Nat → Int32 → Option Hp
  | 0, _, _, _ => none
  | n + 1, F, v0, v1 => (if 2 ≤ v1 then some F else g_X8_layFirst_b37 (g_X8_layFirst_b30 n) gF F v0 v1 0)
set_option maxHeartbeats 4000000 in
theorem bl_X8_layFirst_b30 {X : Cx} {F' : Hp} (hX : Md X cX8_layFirst RX8 3 (rmd 0) none false none F') : ∀ (n : Nat) (F : Hp) (v0 : Nat) (v1 : Int32), g_X8_layFirst_b30 n F v0 v1 = some F' → PW X 0 0 F 30 [(0, .ref v0), (1, .int v1)] [] := by
  have hO := hX.1
  intro n
  induction n with
  | zero => intro F v0 v1 h; rw [g_X8_layFirst_b30] at h; cases h
  | succ n ih =>
    intro F v0 v1 h
    rw [g_X8_layFirst_b30] at h
    refine pw_iload_n hO dX8_layFirst_30 1 rfl ?_
    refine pw_iconst hO dX8_layFirst_31 (v := 2) (by decide) ?_
    refine pw_icmp_ge (tgt := 66) hO dX8_layFirst_32 (by decide) h (fun c4 h => ?_) (fun c4 h => ?_)
    · exact pw_vret hO hX.2 dX8_layFirst_66 h
    · refine pw_iconst hO dX8_layFirst_35 (v := 0) (by decide) ?_
      refine pw_istore_n hO [(2, .int 0), (0, .ref v0), (1, .int v1)] dX8_layFirst_36 (by decide) rfl ?_
      refine pw_sub (lv1 := [(0, .ref v0), (1, .int v1), (2, .int 0)]) [1, 2, 0] rfl ?_
      exact bl_X8_layFirst_b37 hX (g_X8_layFirst_b30 n) ih gF F v0 v1 0 h
def g_X8_layFirst_b2 : Nat → Hp → Nat → Int32 → Option Hp
  | 0, _, _, _ => none
  | n + 1, F, v0, v1 => (if 39 ≤ v1 then ((sI F v0 0 9 1).bind fun F2 => ((sI F2 v0 0 10 2).bind fun F3 => g_X8_layFirst_b30 gF F3 v0 0)) else ((sI F v0 0 v1 0).bind fun F7 => g_X8_layFirst_b2 n F7 v0 ((v1 + 1))))
set_option maxHeartbeats 4000000 in
theorem bl_X8_layFirst_b2 {X : Cx} {F' : Hp} (hX : Md X cX8_layFirst RX8 3 (rmd 0) none false none F') : ∀ (n : Nat) (F : Hp) (v0 : Nat) (v1 : Int32), g_X8_layFirst_b2 n F v0 v1 = some F' → PW X 0 0 F 2 [(0, .ref v0), (1, .int v1)] [] := by
  have hO := hX.1
  intro n
  induction n with
  | zero => intro F v0 v1 h; rw [g_X8_layFirst_b2] at h; cases h
  | succ n ih =>
    intro F v0 v1 h
    rw [g_X8_layFirst_b2] at h
    refine pw_iload_n hO dX8_layFirst_2 1 rfl ?_
    refine pw_bipush hO dX8_layFirst_3 (v := 39) (by decide) ?_
    refine pw_icmp_ge (tgt := 18) hO dX8_layFirst_5 (by decide) h (fun c1 h => ?_) (fun c1 h => ?_)
    · refine pw_aload_n hO dX8_layFirst_18 0 rfl ?_
      refine pw_bipush hO dX8_layFirst_19 (v := 9) (by decide) ?_
      refine pw_iconst hO dX8_layFirst_21 (v := 1) (by decide) ?_
      refine pw_iast hO dX8_layFirst_22 h (fun F2 h => ?_)
      refine pw_aload_n hO dX8_layFirst_23 0 rfl ?_
      refine pw_bipush hO dX8_layFirst_24 (v := 10) (by decide) ?_
      refine pw_iconst hO dX8_layFirst_26 (v := 2) (by decide) ?_
      refine pw_iast hO dX8_layFirst_27 h (fun F3 h => ?_)
      refine pw_iconst hO dX8_layFirst_28 (v := 0) (by decide) ?_
      refine pw_istore_n hO [(1, .int 0), (0, .ref v0)] dX8_layFirst_29 (by decide) rfl ?_
      refine pw_sub (lv1 := [(0, .ref v0), (1, .int 0)]) [1, 0] rfl ?_
      exact bl_X8_layFirst_b30 hX gF F3 v0 0 h
    · refine pw_aload_n hO dX8_layFirst_8 0 rfl ?_
      refine pw_iload_n hO dX8_layFirst_9 1 rfl ?_
      refine pw_iconst hO dX8_layFirst_10 (v := 0) (by decide) ?_
      refine pw_iast hO dX8_layFirst_11 h (fun F7 h => ?_)
      refine pw_iinc hO [(1, .int (v1 + 1)), (0, .ref v0)] dX8_layFirst_12 1 rfl rfl (by decide) rfl ?_
      refine pw_goto (tgt := 2) hO dX8_layFirst_15 (by decide) ?_
      refine pw_sub (lv1 := [(0, .ref v0), (1, .int (v1 + 1))]) [1, 0] rfl ?_
      exact ih F7 v0 ((v1 + 1)) h
def g_X8_layFirst (F : Hp) (a0 : Nat) : Option Hp := g_X8_layFirst_b2 gF F a0 0
set_option maxHeartbeats 4000000 in
theorem bl_X8_layFirst {X : Cx} {F' : Hp} (hX : Md X cX8_layFirst RX8 3 (rmd 0) none false none F') (F : Hp) (a0 : Nat) (h : g_X8_layFirst F a0 = some F') : PW X 0 0 F 0 [(0, .ref a0)] [] := by
  have hO := hX.1
  unfold g_X8_layFirst at h
  refine pw_iconst hO dX8_layFirst_0 (v := 0) (by decide) ?_
  refine pw_istore_n hO [(1, .int 0), (0, .ref a0)] dX8_layFirst_1 (by decide) rfl ?_
  refine pw_sub (lv1 := [(0, .ref a0), (1, .int 0)]) [1, 0] rfl ?_
  exact bl_X8_layFirst_b2 hX gF F a0 0 h
theorem ct_X8_layFirst {n : Nat} {F : Hp} {a0 : Nat} {F' : Hp} (h : g_X8_layFirst F a0 = some F') : CT yX8_layFirst cX8_layFirst 3 none (rmd 0) n F [.ref a0] none F' :=
  ct_intro (own := RX8) (nm := false) (by decide) rfl (fun h => by cases h) (Nat.le_of_ble_eq_true rfl) (fun X hn hX => bl_X8_layFirst hX F a0 h)
def g_X8_lay_b2 : Nat → Hp → Nat → Nat → Int32 → Option Hp
  | 0, _, _, _, _ => none
  | n + 1, F, v0, v1, v2 => (if 39 ≤ v2 then some F else ((aI F v0 0 v2).bind fun x2 => ((sI F v1 0 v2 x2).bind fun F3 => g_X8_lay_b2 n F3 v0 v1 ((v2 + 1)))))
set_option maxHeartbeats 4000000 in
theorem bl_X8_lay_b2 {X : Cx} {F' : Hp} (hX : Md X cX8_lay RX8 3 (rmd 0) none false none F') : ∀ (n : Nat) (F : Hp) (v0 : Nat) (v1 : Nat) (v2 : Int32), g_X8_lay_b2 n F v0 v1 v2 = some F' → PW X 0 0 F 2 [(0, .ref v0), (1, .ref v1), (2, .int v2)] [] := by
  have hO := hX.1
  intro n
  induction n with
  | zero => intro F v0 v1 v2 h; rw [g_X8_lay_b2] at h; cases h
  | succ n ih =>
    intro F v0 v1 v2 h
    rw [g_X8_lay_b2] at h
    refine pw_iload_n hO dX8_lay_2 2 rfl ?_
    refine pw_bipush hO dX8_lay_3 (v := 39) (by decide) ?_
    refine pw_icmp_ge (tgt := 20) hO dX8_lay_5 (by decide) h (fun c1 h => ?_) (fun c1 h => ?_)
    · exact pw_vret hO hX.2 dX8_lay_20 h
    · refine pw_aload_n hO dX8_lay_8 1 rfl ?_
      refine pw_iload_n hO dX8_lay_9 2 rfl ?_
      refine pw_aload_n hO dX8_lay_10 0 rfl ?_
      refine pw_iload_n hO dX8_lay_11 2 rfl ?_
      refine pw_iald hO dX8_lay_12 h (fun x2 h => ?_)
      refine pw_iast hO dX8_lay_13 h (fun F3 h => ?_)
      refine pw_iinc hO [(2, .int (v2 + 1)), (0, .ref v0), (1, .ref v1)] dX8_lay_14 2 rfl rfl (by decide) rfl ?_
      refine pw_goto (tgt := 2) hO dX8_lay_17 (by decide) ?_
      refine pw_sub (lv1 := [(0, .ref v0), (1, .ref v1), (2, .int (v2 + 1))]) [1, 2, 0] rfl ?_
      exact ih F3 v0 v1 ((v2 + 1)) h
def g_X8_lay (F : Hp) (a0 : Nat) (a1 : Nat) : Option Hp := g_X8_lay_b2 gF F a0 a1 0
set_option maxHeartbeats 4000000 in
theorem bl_X8_lay {X : Cx} {F' : Hp} (hX : Md X cX8_lay RX8 3 (rmd 0) none false none F') (F : Hp) (a0 : Nat) (a1 : Nat) (h : g_X8_lay F a0 a1 = some F') : PW X 0 0 F 0 [(0, .ref a0), (1, .ref a1)] [] := by
  have hO := hX.1
  unfold g_X8_lay at h
  refine pw_iconst hO dX8_lay_0 (v := 0) (by decide) ?_
  refine pw_istore_n hO [(2, .int 0), (0, .ref a0), (1, .ref a1)] dX8_lay_1 (by decide) rfl ?_
  refine pw_sub (lv1 := [(0, .ref a0), (1, .ref a1), (2, .int 0)]) [1, 2, 0] rfl ?_
  exact bl_X8_lay_b2 hX gF F a0 a1 0 h
theorem ct_X8_lay {n : Nat} {F : Hp} {a0 : Nat} {a1 : Nat} {F' : Hp} (h : g_X8_lay F a0 a1 = some F') : CT yX8_lay cX8_lay 3 none (rmd 0) n F [.ref a0, .ref a1] none F' :=
  ct_intro (own := RX8) (nm := false) (by decide) rfl (fun h => by cases h) (Nat.le_of_ble_eq_true rfl) (fun X hn hX => bl_X8_lay hX F a0 a1 h)
def g_X8_at (F : Hp) (a0 : Int32) : Option (Int32 × Hp) := some ((11 + (14 * a0)), F)
set_option maxHeartbeats 4000000 in
theorem bl_X8_at {X : Cx} {rx : Int32} {F' : Hp} (hX : Md X cX8_at RX8 1 (rmd 0) (some FieldType.int) false (some (.int rx)) F') (F : Hp) (a0 : Int32) (h : g_X8_at F a0 = some (rx, F')) : PW X 0 0 F 0 [(0, .int a0)] [] := by
  have hO := hX.1
  unfold g_X8_at at h
  refine pw_bipush hO dX8_at_0 (v := 11) (by decide) ?_
  refine pw_bipush hO dX8_at_2 (v := 14) (by decide) ?_
  refine pw_iload_n hO dX8_at_4 0 rfl ?_
  refine pw_imul hO dX8_at_5 ?_
  refine pw_iadd hO dX8_at_6 ?_
  exact pw_iret hO hX.2 dX8_at_7 h
theorem ct_X8_at {n : Nat} {F : Hp} {a0 : Int32} {rx : Int32} {F' : Hp} (h : g_X8_at F a0 = some (rx, F')) : CT yX8_at cX8_at 1 (some FieldType.int) (rmd 0) n F [.int a0] (some (.int rx)) F' :=
  ct_intro (own := RX8) (nm := false) (by decide) rfl (fun h => by cases h) (Nat.le_of_ble_eq_true rfl) (fun X hn hX => bl_X8_at hX F a0 h)
def g_X8_noEnd (F : Hp) (a0 : Int32) : Option (Int32 × Hp) := (bnd2 (g_X8_in F (Int32.toInt64 a0) (0 : Int64) (1 : Int64)) fun x2 F1 => (if x2 = 0 then some (1, F1) else some (0, F1)))
set_option maxHeartbeats 4000000 in
theorem bl_X8_noEnd {X : Cx} {rx : Int32} {F' : Hp} (hX : Md X cX8_noEnd RX8 1 (rmd 1) (some FieldType.boolean) false (some (.int rx)) F') (F : Hp) (a0 : Int32) (h : g_X8_noEnd F a0 = some (rx, F')) : PW X 0 0 F 0 [(0, .int a0)] [] := by
  have hO := hX.1
  unfold g_X8_noEnd at h
  refine pw_iload_n hO dX8_noEnd_0 0 rfl ?_
  refine pw_i2l hO dX8_noEnd_1 ?_
  refine pw_lconst hO dX8_noEnd_2 (v := (0 : Int64)) (by decide) ?_
  refine pw_lconst hO dX8_noEnd_3 (v := (1 : Int64)) (by decide) ?_
  refine pw_SI (as := [.long (Int32.toInt64 a0), .long (0 : Int64), .long (1 : Int64)]) (st := []) (d := 0) hO [.long (1 : Int64), .long (0 : Int64), .long (Int32.toInt64 a0)] dX8_noEnd_4 sl_X8_61 h (fun r F1 hg n => ct_X8_in hg) ⟨Nat.le_of_ble_eq_true rfl, Nat.le_of_ble_eq_true rfl⟩ ⟨Nat.zero_le _, Nat.zero_le _⟩ (Nat.le_of_ble_eq_true rfl) (fun _ _ => rfl) rfl (fun x2 F1 h => ?_)
  refine pw_if_ne (tgt := 14) hO dX8_noEnd_7 (by decide) h (fun c3 h => ?_) (fun c3 h => ?_)
  · refine pw_iconst hO dX8_noEnd_14 (v := 0) (by decide) ?_
    exact pw_zretc hO hX.2 dX8_noEnd_15 (Or.inl rfl) h
  · refine pw_iconst hO dX8_noEnd_10 (v := 1) (by decide) ?_
    refine pw_goto (tgt := 15) hO dX8_noEnd_11 (by decide) ?_
    exact pw_zretc hO hX.2 dX8_noEnd_15 (Or.inr rfl) h
theorem ct_X8_noEnd {n : Nat} {F : Hp} {a0 : Int32} {rx : Int32} {F' : Hp} (h : g_X8_noEnd F a0 = some (rx, F')) : CT yX8_noEnd cX8_noEnd 1 (some FieldType.boolean) (rmd 1) n F [.int a0] (some (.int rx)) F' :=
  ct_intro (own := RX8) (nm := false) (by decide) rfl (fun h => by cases h) (Nat.le_of_ble_eq_true rfl) (fun X hn hX => bl_X8_noEnd hX F a0 h)
def g_X8_isFull (F : Hp) (a0 : Nat) (a1 : Int32) : Option (Int32 × Hp) := (bnd2 (g_X8_at F a1) fun x2 F1 => ((aI F1 a0 0 (x2 + 4)).bind fun x3 => (if x3 = 9 then some (1, F1) else some (0, F1))))
set_option maxHeartbeats 4000000 in
theorem bl_X8_isFull {X : Cx} {rx : Int32} {F' : Hp} (hX : Md X cX8_isFull RX8 2 (rmd 1) (some FieldType.boolean) false (some (.int rx)) F') (F : Hp) (a0 : Nat) (a1 : Int32) (h : g_X8_isFull F a0 a1 = some (rx, F')) : PW X 0 0 F 0 [(0, .ref a0), (1, .int a1)] [] := by
  have hO := hX.1
  unfold g_X8_isFull at h
  refine pw_aload_n hO dX8_isFull_0 0 rfl ?_
  refine pw_iload_n hO dX8_isFull_1 1 rfl ?_
  refine pw_SI (as := [.int a1]) (st := [.ref a0]) (d := 0) hO [.int a1, .ref a0] dX8_isFull_2 sl_X8_65 h (fun r F1 hg n => ct_X8_at hg) ⟨Nat.le_of_ble_eq_true rfl, Nat.le_of_ble_eq_true rfl⟩ ⟨Nat.zero_le _, Nat.zero_le _⟩ (Nat.le_of_ble_eq_true rfl) (fun _ _ => rfl) rfl (fun x2 F1 h => ?_)
  refine pw_iconst hO dX8_isFull_5 (v := 4) (by decide) ?_
  refine pw_iadd hO dX8_isFull_6 ?_
  refine pw_iald hO dX8_isFull_7 h (fun x3 h => ?_)
  refine pw_bipush hO dX8_isFull_8 (v := 9) (by decide) ?_
  refine pw_icmp_ne (tgt := 17) hO dX8_isFull_10 (by decide) h (fun c4 h => ?_) (fun c4 h => ?_)
  · refine pw_iconst hO dX8_isFull_17 (v := 0) (by decide) ?_
    exact pw_zretc hO hX.2 dX8_isFull_18 (Or.inl rfl) h
  · refine pw_iconst hO dX8_isFull_13 (v := 1) (by decide) ?_
    refine pw_goto (tgt := 18) hO dX8_isFull_14 (by decide) ?_
    exact pw_zretc hO hX.2 dX8_isFull_18 (Or.inr rfl) h
theorem ct_X8_isFull {n : Nat} {F : Hp} {a0 : Nat} {a1 : Int32} {rx : Int32} {F' : Hp} (h : g_X8_isFull F a0 a1 = some (rx, F')) : CT yX8_isFull cX8_isFull 2 (some FieldType.boolean) (rmd 1) n F [.ref a0, .int a1] (some (.int rx)) F' :=
  ct_intro (own := RX8) (nm := false) (by decide) rfl (fun h => by cases h) (Nat.le_of_ble_eq_true rfl) (fun X hn hX => bl_X8_isFull hX F a0 a1 h)
def g_X8_comeOn (F : Hp) (a0 : Nat) (a1 : Int32) (a2 : Int32) : Option Hp := (bnd2 (g_X8_at F a1) fun x2 F1 => ((aI F1 a0 0 (x2 + 4)).bind fun x3 => ((aI F1 a0 0 3).bind fun x4 => ((sI F1 a0 0 ((x2 + 5) + x3) ((10 * x4) + a2)).bind fun F5 => ((aI F5 a0 0 (x2 + 4)).bind fun x6 => ((sI F5 a0 0 (x2 + 4) (x6 + 1)).bind fun F7 => some F7))))))
set_option maxHeartbeats 4000000 in
theorem bl_X8_comeOn {X : Cx} {F' : Hp} (hX : Md X cX8_comeOn RX8 4 (rmd 1) none false none F') (F : Hp) (a0 : Nat) (a1 : Int32) (a2 : Int32) (h : g_X8_comeOn F a0 a1 a2 = some F') : PW X 0 0 F 0 [(0, .ref a0), (1, .int a1), (2, .int a2)] [] := by
  have hO := hX.1
  unfold g_X8_comeOn at h
  refine pw_iload_n hO dX8_comeOn_0 1 rfl ?_
  refine pw_SI (as := [.int a1]) (st := []) (d := 0) hO [.int a1] dX8_comeOn_1 sl_X8_65 h (fun r F1 hg n => ct_X8_at hg) ⟨Nat.le_of_ble_eq_true rfl, Nat.le_of_ble_eq_true rfl⟩ ⟨Nat.zero_le _, Nat.zero_le _⟩ (Nat.le_of_ble_eq_true rfl) (fun _ _ => rfl) rfl (fun x2 F1 h => ?_)
  refine pw_istore_n hO [(3, .int x2), (0, .ref a0), (1, .int a1), (2, .int a2)] dX8_comeOn_4 (by decide) rfl ?_
  refine pw_aload_n hO dX8_comeOn_5 1 rfl ?_
  refine pw_iload_n hO dX8_comeOn_6 0 rfl ?_
  refine pw_iconst hO dX8_comeOn_7 (v := 5) (by decide) ?_
  refine pw_iadd hO dX8_comeOn_8 ?_
  refine pw_aload_n hO dX8_comeOn_9 1 rfl ?_
  refine pw_iload_n hO dX8_comeOn_10 0 rfl ?_
  refine pw_iconst hO dX8_comeOn_11 (v := 4) (by decide) ?_
  refine pw_iadd hO dX8_comeOn_12 ?_
  refine pw_iald hO dX8_comeOn_13 h (fun x3 h => ?_)
  refine pw_iadd hO dX8_comeOn_14 ?_
  refine pw_bipush hO dX8_comeOn_15 (v := 10) (by decide) ?_
  refine pw_aload_n hO dX8_comeOn_17 1 rfl ?_
  refine pw_iconst hO dX8_comeOn_18 (v := 3) (by decide) ?_
  refine pw_iald hO dX8_comeOn_19 h (fun x4 h => ?_)
  refine pw_imul hO dX8_comeOn_20 ?_
  refine pw_iload_n hO dX8_comeOn_21 3 rfl ?_
  refine pw_iadd hO dX8_comeOn_22 ?_
  refine pw_iast hO dX8_comeOn_23 h (fun F5 h => ?_)
  refine pw_aload_n hO dX8_comeOn_24 1 rfl ?_
  refine pw_iload_n hO dX8_comeOn_25 0 rfl ?_
  refine pw_iconst hO dX8_comeOn_26 (v := 4) (by decide) ?_
  refine pw_iadd hO dX8_comeOn_27 ?_
  refine pw_dup2 hO dX8_comeOn_28 rfl rfl ?_
  refine pw_iald hO dX8_comeOn_29 h (fun x6 h => ?_)
  refine pw_iconst hO dX8_comeOn_30 (v := 1) (by decide) ?_
  refine pw_iadd hO dX8_comeOn_31 ?_
  refine pw_iast hO dX8_comeOn_32 h (fun F7 h => ?_)
  exact pw_vret hO hX.2 dX8_comeOn_33 h
theorem ct_X8_comeOn {n : Nat} {F : Hp} {a0 : Nat} {a1 : Int32} {a2 : Int32} {F' : Hp} (h : g_X8_comeOn F a0 a1 a2 = some F') : CT yX8_comeOn cX8_comeOn 4 none (rmd 1) n F [.ref a0, .int a1, .int a2] none F' :=
  ct_intro (own := RX8) (nm := false) (by decide) rfl (fun h => by cases h) (Nat.le_of_ble_eq_true rfl) (fun X hn hX => bl_X8_comeOn hX F a0 a1 a2 h)
def g_X8_isDue_b94 (rec28 : Hp → Nat → Nat → Int32 → Int32 → Int32 → Int32 → Option (Int32 × Hp)) (F : Hp) (v0 : Nat) (v1 : Nat) (v2 : Int32) (v3 : Int32) (v5 : Int32) (s0 : Int32) : Option (Int32 × Hp) := rec28 F v0 v1 v2 v3 s0 ((v5 + 1))
set_option maxHeartbeats 4000000 in
theorem bl_X8_isDue_b94 {X : Cx} {rx : Int32} {F' : Hp} (hX : Md X cX8_isDue RX8 7 (rmd 1) (some FieldType.boolean) false (some (.int rx)) F') (rec28 : Hp → Nat → Nat → Int32 → Int32 → Int32 → Int32 → Option (Int32 × Hp)) (hrec28 : ∀ (F : Hp) (v0 : Nat) (v1 : Nat) (v2 : Int32) (v3 : Int32) (v4 : Int32) (v5 : Int32), rec28 F v0 v1 v2 v3 v4 v5 = some (rx, F') → PW X 0 0 F 28 [(0, .ref v0), (1, .ref v1), (2, .int v2), (3, .int v3), (4, .int v4), (5, .int v5)] []) (F : Hp) (v0 : Nat) (v1 : Nat) (v2 : Int32) (v3 : Int32) (v5 : Int32) (s0 : Int32) (h : g_X8_isDue_b94 rec28 F v0 v1 v2 v3 v5 s0 = some (rx, F')) : PW X 0 0 F 94 [(0, .ref v0), (1, .ref v1), (2, .int v2), (3, .int v3), (5, .int v5)] [.int s0] := by
  have hO := hX.1
  unfold g_X8_isDue_b94 at h
  refine pw_istore hO [(4, .int s0), (0, .ref v0), (1, .ref v1), (2, .int v2), (3, .int v3), (5, .int v5)] dX8_isDue_94 (by decide) rfl ?_
  refine pw_iinc hO [(5, .int (v5 + 1)), (4, .int s0), (0, .ref v0), (1, .ref v1), (2, .int v2), (3, .int v3)] dX8_isDue_96 5 rfl rfl (by decide) rfl ?_
  refine pw_goto (tgt := 28) hO dX8_isDue_99 (by decide) ?_
  refine pw_sub (lv1 := [(0, .ref v0), (1, .ref v1), (2, .int v2), (3, .int v3), (4, .int s0), (5, .int (v5 + 1))]) [2, 3, 4, 5, 1, 0] rfl ?_
  exact hrec28 F v0 v1 v2 v3 s0 ((v5 + 1)) h
def g_X8_isDue_b89 (rec28 : Hp → Nat → Nat → Int32 → Int32 → Int32 → Int32 → Option (Int32 × Hp)) (F : Hp) (v0 : Nat) (v1 : Nat) (v2 : Int32) (v3 : Int32) (v5 : Int32) : Option (Int32 × Hp) := g_X8_isDue_b94 rec28 F v0 v1 v2 v3 v5 1
set_option maxHeartbeats 4000000 in
theorem bl_X8_isDue_b89 {X : Cx} {rx : Int32} {F' : Hp} (hX : Md X cX8_isDue RX8 7 (rmd 1) (some FieldType.boolean) false (some (.int rx)) F') (rec28 : Hp → Nat → Nat → Int32 → Int32 → Int32 → Int32 → Option (Int32 × Hp)) (hrec28 : ∀ (F : Hp) (v0 : Nat) (v1 : Nat) (v2 : Int32) (v3 : Int32) (v4 : Int32) (v5 : Int32), rec28 F v0 v1 v2 v3 v4 v5 = some (rx, F') → PW X 0 0 F 28 [(0, .ref v0), (1, .ref v1), (2, .int v2), (3, .int v3), (4, .int v4), (5, .int v5)] []) (F : Hp) (v0 : Nat) (v1 : Nat) (v2 : Int32) (v3 : Int32) (v5 : Int32) (h : g_X8_isDue_b89 rec28 F v0 v1 v2 v3 v5 = some (rx, F')) : PW X 0 0 F 89 [(0, .ref v0), (1, .ref v1), (2, .int v2), (3, .int v3), (5, .int v5)] [] := by
  have hO := hX.1
  unfold g_X8_isDue_b89 at h
  refine pw_iconst hO dX8_isDue_89 (v := 1) (by decide) ?_
  refine pw_goto (tgt := 94) hO dX8_isDue_90 (by decide) ?_
  refine pw_sub (lv1 := [(0, .ref v0), (1, .ref v1), (2, .int v2), (3, .int v3), (5, .int v5)]) [0, 1, 2, 3, 4] rfl ?_
  exact bl_X8_isDue_b94 hX rec28 hrec28 F v0 v1 v2 v3 v5 1 h
def g_X8_isDue_b28 : Nat → Hp → Nat → Nat → Int32 → Int32 → Int32 → Int32 → Option (Int32 × Hp)
  | 0, _, _, _, _, _, _, _ => none
  | n + 1, F, v0, v1, v2, v3, v4, v5 => ((aI F v1 0 (v3 + 4)).bind fun x6 => (if x6 ≤ v5 then (if v4 = 0 ∨ v4 = 1 then some (v4, F) else none) else ((aI F v1 0 ((v3 + 5) + v5)).bind fun x8 => (if v4 = 0 then (if 0 < (jrem x8 10) then g_X8_isDue_b89 (g_X8_isDue_b28 n) F v0 v1 v2 v3 v5 else ((aI F v1 0 3).bind fun x11 => ((aI F v1 0 (v3 + 2)).bind fun x12 => (if x12 ≤ (x11 - (x8 / 10)) then g_X8_isDue_b89 (g_X8_isDue_b28 n) F v0 v1 v2 v3 v5 else ((gI F v0 8 21).bind fun x14 => (bnd2 (g_X8_has F x14 v2) fun x16 F15 => (if x16 = 0 then g_X8_isDue_b89 (g_X8_isDue_b28 n) F15 v0 v1 v2 v3 v5 else g_X8_isDue_b94 (g_X8_isDue_b28 n) F15 v0 v1 v2 v3 v5 0))))))) else g_X8_isDue_b89 (g_X8_isDue_b28 n) F v0 v1 v2 v3 v5))))
set_option maxHeartbeats 4000000 in
theorem bl_X8_isDue_b28 {X : Cx} {rx : Int32} {F' : Hp} (hX : Md X cX8_isDue RX8 7 (rmd 1) (some FieldType.boolean) false (some (.int rx)) F') : ∀ (n : Nat) (F : Hp) (v0 : Nat) (v1 : Nat) (v2 : Int32) (v3 : Int32) (v4 : Int32) (v5 : Int32), g_X8_isDue_b28 n F v0 v1 v2 v3 v4 v5 = some (rx, F') → PW X 0 0 F 28 [(0, .ref v0), (1, .ref v1), (2, .int v2), (3, .int v3), (4, .int v4), (5, .int v5)] [] := by
  have hO := hX.1
  intro n
  induction n with
  | zero => intro F v0 v1 v2 v3 v4 v5 h; rw [g_X8_isDue_b28] at h; cases h
  | succ n ih =>
    intro F v0 v1 v2 v3 v4 v5 h
    rw [g_X8_isDue_b28] at h
    refine pw_iload hO dX8_isDue_28 5 rfl ?_
    refine pw_aload_n hO dX8_isDue_30 1 rfl ?_
    refine pw_iload_n hO dX8_isDue_31 3 rfl ?_
    refine pw_iconst hO dX8_isDue_32 (v := 4) (by decide) ?_
    refine pw_iadd hO dX8_isDue_33 ?_
    refine pw_iald hO dX8_isDue_34 h (fun x6 h => ?_)
    refine pw_icmp_ge (tgt := 102) hO dX8_isDue_35 (by decide) h (fun c7 h => ?_) (fun c7 h => ?_)
    · refine pw_iload hO dX8_isDue_102 4 rfl ?_
      exact pw_zret hO hX.2 dX8_isDue_104 h
    · refine pw_aload_n hO dX8_isDue_38 1 rfl ?_
      refine pw_iload_n hO dX8_isDue_39 3 rfl ?_
      refine pw_iconst hO dX8_isDue_40 (v := 5) (by decide) ?_
      refine pw_iadd hO dX8_isDue_41 ?_
      refine pw_iload hO dX8_isDue_42 5 rfl ?_
      refine pw_iadd hO dX8_isDue_44 ?_
      refine pw_iald hO dX8_isDue_45 h (fun x8 h => ?_)
      refine pw_istore hO [(6, .int x8), (0, .ref v0), (1, .ref v1), (2, .int v2), (3, .int v3), (4, .int v4), (5, .int v5)] dX8_isDue_46 (by decide) rfl ?_
      refine pw_iload hO dX8_isDue_48 5 rfl ?_
      refine pw_if_ne (tgt := 89) hO dX8_isDue_50 (by decide) h (fun c9 h => ?_) (fun c9 h => ?_)
      · refine pw_sub (lv1 := [(0, .ref v0), (1, .ref v1), (2, .int v2), (3, .int v3), (5, .int v5)]) [1, 2, 3, 4, 6] rfl ?_
        exact bl_X8_isDue_b89 hX (g_X8_isDue_b28 n) ih F v0 v1 v2 v3 v5 h
      · refine pw_iload hO dX8_isDue_53 0 rfl ?_
        refine pw_bipush hO dX8_isDue_55 (v := 10) (by decide) ?_
        refine pw_iremc hO dX8_isDue_57 (by decide) ?_
        refine pw_if_gt (tgt := 89) hO dX8_isDue_58 (by decide) h (fun c10 h => ?_) (fun c10 h => ?_)
        · refine pw_sub (lv1 := [(0, .ref v0), (1, .ref v1), (2, .int v2), (3, .int v3), (5, .int v5)]) [1, 2, 3, 4, 6] rfl ?_
          exact bl_X8_isDue_b89 hX (g_X8_isDue_b28 n) ih F v0 v1 v2 v3 v5 h
        · refine pw_aload_n hO dX8_isDue_61 2 rfl ?_
          refine pw_iconst hO dX8_isDue_62 (v := 3) (by decide) ?_
          refine pw_iald hO dX8_isDue_63 h (fun x11 h => ?_)
          refine pw_iload hO dX8_isDue_64 0 rfl ?_
          refine pw_bipush hO dX8_isDue_66 (v := 10) (by decide) ?_
          refine pw_idivc hO dX8_isDue_68 (by decide) ?_
          refine pw_isub hO dX8_isDue_69 ?_
          refine pw_aload_n hO dX8_isDue_70 2 rfl ?_
          refine pw_iload_n hO dX8_isDue_71 4 rfl ?_
          refine pw_iconst hO dX8_isDue_72 (v := 2) (by decide) ?_
          refine pw_iadd hO dX8_isDue_73 ?_
          refine pw_iald hO dX8_isDue_74 h (fun x12 h => ?_)
          refine pw_icmp_ge (tgt := 89) hO dX8_isDue_75 (by decide) h (fun c13 h => ?_) (fun c13 h => ?_)
          · refine pw_sub (lv1 := [(0, .ref v0), (1, .ref v1), (2, .int v2), (3, .int v3), (5, .int v5)]) [1, 2, 3, 4, 6] rfl ?_
            exact bl_X8_isDue_b89 hX (g_X8_isDue_b28 n) ih F v0 v1 v2 v3 v5 h
          · refine pw_aload_n hO dX8_isDue_78 1 rfl ?_
            refine pw_getI hO dX8_isDue_79 fl_X8_50 h (fun x14 h => ?_)
            refine pw_iload_n hO dX8_isDue_82 3 rfl ?_
            refine pw_SI (as := [.int x14, .int v2]) (st := []) (d := 0) hO [.int v2, .int x14] dX8_isDue_83 sl_X8_69 h (fun r F1 hg n => ct_X8_has hg) ⟨Nat.le_of_ble_eq_true rfl, Nat.le_of_ble_eq_true rfl⟩ ⟨Nat.zero_le _, Nat.zero_le _⟩ (Nat.le_of_ble_eq_true rfl) (fun _ _ => rfl) rfl (fun x16 F15 h => ?_)
            refine pw_if_ne (tgt := 93) hO dX8_isDue_86 (by decide) h (fun c17 h => ?_) (fun c17 h => ?_)
            · refine pw_iconst hO dX8_isDue_93 (v := 0) (by decide) ?_
              refine pw_sub (lv1 := [(0, .ref v0), (1, .ref v1), (2, .int v2), (3, .int v3), (5, .int v5)]) [1, 2, 3, 4, 6] rfl ?_
              exact bl_X8_isDue_b94 hX (g_X8_isDue_b28 n) ih F15 v0 v1 v2 v3 v5 0 h
            · refine pw_sub (lv1 := [(0, .ref v0), (1, .ref v1), (2, .int v2), (3, .int v3), (5, .int v5)]) [1, 2, 3, 4, 6] rfl ?_
              exact bl_X8_isDue_b89 hX (g_X8_isDue_b28 n) ih F15 v0 v1 v2 v3 v5 h
def g_X8_isDue_b23 (F : Hp) (v0 : Nat) (v1 : Nat) (v2 : Int32) (v3 : Int32) (s0 : Int32) : Option (Int32 × Hp) := g_X8_isDue_b28 gF F v0 v1 v2 v3 s0 0
set_option maxHeartbeats 4000000 in
theorem bl_X8_isDue_b23 {X : Cx} {rx : Int32} {F' : Hp} (hX : Md X cX8_isDue RX8 7 (rmd 1) (some FieldType.boolean) false (some (.int rx)) F') (F : Hp) (v0 : Nat) (v1 : Nat) (v2 : Int32) (v3 : Int32) (s0 : Int32) (h : g_X8_isDue_b23 F v0 v1 v2 v3 s0 = some (rx, F')) : PW X 0 0 F 23 [(0, .ref v0), (1, .ref v1), (2, .int v2), (3, .int v3)] [.int s0] := by
  have hO := hX.1
  unfold g_X8_isDue_b23 at h
  refine pw_istore hO [(4, .int s0), (0, .ref v0), (1, .ref v1), (2, .int v2), (3, .int v3)] dX8_isDue_23 (by decide) rfl ?_
  refine pw_iconst hO dX8_isDue_25 (v := 0) (by decide) ?_
  refine pw_istore hO [(5, .int 0), (4, .int s0), (0, .ref v0), (1, .ref v1), (2, .int v2), (3, .int v3)] dX8_isDue_26 (by decide) rfl ?_
  refine pw_sub (lv1 := [(0, .ref v0), (1, .ref v1), (2, .int v2), (3, .int v3), (4, .int s0), (5, .int 0)]) [2, 3, 4, 5, 1, 0] rfl ?_
  exact bl_X8_isDue_b28 hX gF F v0 v1 v2 v3 s0 0 h
def g_X8_isDue (F : Hp) (a0 : Nat) (a1 : Nat) (a2 : Int32) : Option (Int32 × Hp) := (bnd2 (g_X8_at F a2) fun x2 F1 => ((aI F1 a1 0 (x2 + 4)).bind fun x3 => ((aI F1 a1 0 (x2 + 1)).bind fun x4 => (if x3 < x4 then g_X8_isDue_b23 F1 a0 a1 a2 x2 0 else g_X8_isDue_b23 F1 a0 a1 a2 x2 1))))
set_option maxHeartbeats 4000000 in
theorem bl_X8_isDue {X : Cx} {rx : Int32} {F' : Hp} (hX : Md X cX8_isDue RX8 7 (rmd 1) (some FieldType.boolean) false (some (.int rx)) F') (F : Hp) (a0 : Nat) (a1 : Nat) (a2 : Int32) (h : g_X8_isDue F a0 a1 a2 = some (rx, F')) : PW X 0 0 F 0 [(0, .ref a0), (1, .ref a1), (2, .int a2)] [] := by
  have hO := hX.1
  unfold g_X8_isDue at h
  refine pw_iload_n hO dX8_isDue_0 2 rfl ?_
  refine pw_SI (as := [.int a2]) (st := []) (d := 0) hO [.int a2] dX8_isDue_1 sl_X8_65 h (fun r F1 hg n => ct_X8_at hg) ⟨Nat.le_of_ble_eq_true rfl, Nat.le_of_ble_eq_true rfl⟩ ⟨Nat.zero_le _, Nat.zero_le _⟩ (Nat.le_of_ble_eq_true rfl) (fun _ _ => rfl) rfl (fun x2 F1 h => ?_)
  refine pw_istore_n hO [(3, .int x2), (0, .ref a0), (1, .ref a1), (2, .int a2)] dX8_isDue_4 (by decide) rfl ?_
  refine pw_aload_n hO dX8_isDue_5 2 rfl ?_
  refine pw_iload_n hO dX8_isDue_6 0 rfl ?_
  refine pw_iconst hO dX8_isDue_7 (v := 4) (by decide) ?_
  refine pw_iadd hO dX8_isDue_8 ?_
  refine pw_iald hO dX8_isDue_9 h (fun x3 h => ?_)
  refine pw_aload_n hO dX8_isDue_10 2 rfl ?_
  refine pw_iload_n hO dX8_isDue_11 0 rfl ?_
  refine pw_iconst hO dX8_isDue_12 (v := 1) (by decide) ?_
  refine pw_iadd hO dX8_isDue_13 ?_
  refine pw_iald hO dX8_isDue_14 h (fun x4 h => ?_)
  refine pw_icmp_lt (tgt := 22) hO dX8_isDue_15 (by decide) h (fun c5 h => ?_) (fun c5 h => ?_)
  · refine pw_iconst hO dX8_isDue_22 (v := 0) (by decide) ?_
    refine pw_sub (lv1 := [(0, .ref a0), (1, .ref a1), (2, .int a2), (3, .int x2)]) [1, 2, 3, 0] rfl ?_
    exact bl_X8_isDue_b23 hX F1 a0 a1 a2 x2 0 h
  · refine pw_iconst hO dX8_isDue_18 (v := 1) (by decide) ?_
    refine pw_goto (tgt := 23) hO dX8_isDue_19 (by decide) ?_
    refine pw_sub (lv1 := [(0, .ref a0), (1, .ref a1), (2, .int a2), (3, .int x2)]) [1, 2, 3, 0] rfl ?_
    exact bl_X8_isDue_b23 hX F1 a0 a1 a2 x2 1 h
theorem ct_X8_isDue {n : Nat} {F : Hp} {a0 : Nat} {a1 : Nat} {a2 : Int32} {rx : Int32} {F' : Hp} (h : g_X8_isDue F a0 a1 a2 = some (rx, F')) : CT yX8_isDue cX8_isDue 7 (some FieldType.boolean) (rmd 1) n F [.ref a0, .ref a1, .int a2] (some (.int rx)) F' :=
  ct_intro (own := RX8) (nm := false) (by decide) rfl (fun h => by cases h) (Nat.le_of_ble_eq_true rfl) (fun X hn hX => bl_X8_isDue hX F a0 a1 a2 h)
def g_X8_wakeTime_b54 (rec4 : Hp → Nat → Int32 → Int32 → Option (Int32 × Hp)) (F : Hp) (v0 : Nat) (v2 : Int32) (s0 : Int32) : Option (Int32 × Hp) := rec4 F v0 s0 ((v2 + 1))
set_option maxHeartbeats 4000000 in
theorem bl_X8_wakeTime_b54 {X : Cx} {rx : Int32} {F' : Hp} (hX : Md X cX8_wakeTime RX8 3 (rmd 1) (some FieldType.int) false (some (.int rx)) F') (rec4 : Hp → Nat → Int32 → Int32 → Option (Int32 × Hp)) (hrec4 : ∀ (F : Hp) (v0 : Nat) (v1 : Int32) (v2 : Int32), rec4 F v0 v1 v2 = some (rx, F') → PW X 0 0 F 4 [(0, .ref v0), (1, .int v1), (2, .int v2)] []) (F : Hp) (v0 : Nat) (v2 : Int32) (s0 : Int32) (h : g_X8_wakeTime_b54 rec4 F v0 v2 s0 = some (rx, F')) : PW X 0 0 F 54 [(0, .ref v0), (2, .int v2)] [.int s0] := by
  have hO := hX.1
  unfold g_X8_wakeTime_b54 at h
  refine pw_istore_n hO [(1, .int s0), (0, .ref v0), (2, .int v2)] dX8_wakeTime_54 (by decide) rfl ?_
  refine pw_iinc hO [(2, .int (v2 + 1)), (1, .int s0), (0, .ref v0)] dX8_wakeTime_55 2 rfl rfl (by decide) rfl ?_
  refine pw_goto (tgt := 4) hO dX8_wakeTime_58 (by decide) ?_
  refine pw_sub (lv1 := [(0, .ref v0), (1, .int s0), (2, .int (v2 + 1))]) [2, 1, 0] rfl ?_
  exact hrec4 F v0 s0 ((v2 + 1)) h
def g_X8_wakeTime_b29 (rec4 : Hp → Nat → Int32 → Int32 → Option (Int32 × Hp)) (F : Hp) (v0 : Nat) (v2 : Int32) (s0 : Int32) : Option (Int32 × Hp) := (bnd2 (g_X8_at F v2) fun x7 F6 => ((aI F6 v0 0 (x7 + 3)).bind fun x8 => (if x8 ≤ s0 then g_X8_wakeTime_b54 rec4 F6 v0 v2 s0 else (bnd2 (g_X8_at F6 v2) fun x11 F10 => ((aI F10 v0 0 (x11 + 3)).bind fun x12 => g_X8_wakeTime_b54 rec4 F10 v0 v2 x12)))))
set_option maxHeartbeats 4000000 in
theorem bl_X8_wakeTime_b29 {X : Cx} {rx : Int32} {F' : Hp} (hX : Md X cX8_wakeTime RX8 3 (rmd 1) (some FieldType.int) false (some (.int rx)) F') (rec4 : Hp → Nat → Int32 → Int32 → Option (Int32 × Hp)) (hrec4 : ∀ (F : Hp) (v0 : Nat) (v1 : Int32) (v2 : Int32), rec4 F v0 v1 v2 = some (rx, F') → PW X 0 0 F 4 [(0, .ref v0), (1, .int v1), (2, .int v2)] []) (F : Hp) (v0 : Nat) (v2 : Int32) (s0 : Int32) (h : g_X8_wakeTime_b29 rec4 F v0 v2 s0 = some (rx, F')) : PW X 0 0 F 29 [(0, .ref v0), (2, .int v2)] [.int s0] := by
  have hO := hX.1
  unfold g_X8_wakeTime_b29 at h
  refine pw_istore_n hO [(1, .int s0), (0, .ref v0), (2, .int v2)] dX8_wakeTime_29 (by decide) rfl ?_
  refine pw_aload_n hO dX8_wakeTime_30 1 rfl ?_
  refine pw_iload_n hO dX8_wakeTime_31 2 rfl ?_
  refine pw_SI (as := [.int v2]) (st := [.ref v0]) (d := 0) hO [.int v2, .ref v0] dX8_wakeTime_32 sl_X8_65 h (fun r F1 hg n => ct_X8_at hg) ⟨Nat.le_of_ble_eq_true rfl, Nat.le_of_ble_eq_true rfl⟩ ⟨Nat.zero_le _, Nat.zero_le _⟩ (Nat.le_of_ble_eq_true rfl) (fun _ _ => rfl) rfl (fun x7 F6 h => ?_)
  refine pw_iconst hO dX8_wakeTime_35 (v := 3) (by decide) ?_
  refine pw_iadd hO dX8_wakeTime_36 ?_
  refine pw_iald hO dX8_wakeTime_37 h (fun x8 h => ?_)
  refine pw_iload_n hO dX8_wakeTime_38 0 rfl ?_
  refine pw_icmp_le (tgt := 53) hO dX8_wakeTime_39 (by decide) h (fun c9 h => ?_) (fun c9 h => ?_)
  · refine pw_iload_n hO dX8_wakeTime_53 0 rfl ?_
    refine pw_sub (lv1 := [(0, .ref v0), (2, .int v2)]) [1, 2] rfl ?_
    exact bl_X8_wakeTime_b54 hX rec4 hrec4 F6 v0 v2 s0 h
  · refine pw_aload_n hO dX8_wakeTime_42 1 rfl ?_
    refine pw_iload_n hO dX8_wakeTime_43 2 rfl ?_
    refine pw_SI (as := [.int v2]) (st := [.ref v0]) (d := 0) hO [.int v2, .ref v0] dX8_wakeTime_44 sl_X8_65 h (fun r F1 hg n => ct_X8_at hg) ⟨Nat.le_of_ble_eq_true rfl, Nat.le_of_ble_eq_true rfl⟩ ⟨Nat.zero_le _, Nat.zero_le _⟩ (Nat.le_of_ble_eq_true rfl) (fun _ _ => rfl) rfl (fun x11 F10 h => ?_)
    refine pw_iconst hO dX8_wakeTime_47 (v := 3) (by decide) ?_
    refine pw_iadd hO dX8_wakeTime_48 ?_
    refine pw_iald hO dX8_wakeTime_49 h (fun x12 h => ?_)
    refine pw_goto (tgt := 54) hO dX8_wakeTime_50 (by decide) ?_
    refine pw_sub (lv1 := [(0, .ref v0), (2, .int v2)]) [1, 2] rfl ?_
    exact bl_X8_wakeTime_b54 hX rec4 hrec4 F10 v0 v2 x12 h
def g_X8_wakeTime_b4 : Nat → Hp → Nat → Int32 → Int32 → Option (Int32 × Hp)
  | 0, _, _, _, _ => none
  | n + 1, F, v0, v1, v2 => (if 2 ≤ v2 then some (v1, F) else (bnd2 (g_X8_at F v2) fun x3 F2 => ((aI F2 v0 0 x3).bind fun x4 => (if x4 ≤ v1 then g_X8_wakeTime_b29 (g_X8_wakeTime_b4 n) F2 v0 v2 v1 else (bnd2 (g_X8_at F2 v2) fun x14 F13 => ((aI F13 v0 0 x14).bind fun x15 => g_X8_wakeTime_b29 (g_X8_wakeTime_b4 n) F13 v0 v2 x15))))))
set_option maxHeartbeats 4000000 in
theorem bl_X8_wakeTime_b4 {X : Cx} {rx : Int32} {F' : Hp} (hX : Md X cX8_wakeTime RX8 3 (rmd 1) (some FieldType.int) false (some (.int rx)) F') : ∀ (n : Nat) (F : Hp) (v0 : Nat) (v1 : Int32) (v2 : Int32), g_X8_wakeTime_b4 n F v0 v1 v2 = some (rx, F') → PW X 0 0 F 4 [(0, .ref v0), (1, .int v1), (2, .int v2)] [] := by
  have hO := hX.1
  intro n
  induction n with
  | zero => intro F v0 v1 v2 h; rw [g_X8_wakeTime_b4] at h; cases h
  | succ n ih =>
    intro F v0 v1 v2 h
    rw [g_X8_wakeTime_b4] at h
    refine pw_iload_n hO dX8_wakeTime_4 2 rfl ?_
    refine pw_iconst hO dX8_wakeTime_5 (v := 2) (by decide) ?_
    refine pw_icmp_ge (tgt := 61) hO dX8_wakeTime_6 (by decide) h (fun c1 h => ?_) (fun c1 h => ?_)
    · refine pw_iload_n hO dX8_wakeTime_61 1 rfl ?_
      exact pw_iret hO hX.2 dX8_wakeTime_62 h
    · refine pw_aload_n hO dX8_wakeTime_9 0 rfl ?_
      refine pw_iload_n hO dX8_wakeTime_10 2 rfl ?_
      refine pw_SI (as := [.int v2]) (st := [.ref v0]) (d := 0) hO [.int v2, .ref v0] dX8_wakeTime_11 sl_X8_65 h (fun r F1 hg n => ct_X8_at hg) ⟨Nat.le_of_ble_eq_true rfl, Nat.le_of_ble_eq_true rfl⟩ ⟨Nat.zero_le _, Nat.zero_le _⟩ (Nat.le_of_ble_eq_true rfl) (fun _ _ => rfl) rfl (fun x3 F2 h => ?_)
      refine pw_iald hO dX8_wakeTime_14 h (fun x4 h => ?_)
      refine pw_iload_n hO dX8_wakeTime_15 1 rfl ?_
      refine pw_icmp_le (tgt := 28) hO dX8_wakeTime_16 (by decide) h (fun c5 h => ?_) (fun c5 h => ?_)
      · refine pw_iload_n hO dX8_wakeTime_28 1 rfl ?_
        refine pw_sub (lv1 := [(0, .ref v0), (2, .int v2)]) [0, 2] rfl ?_
        exact bl_X8_wakeTime_b29 hX (g_X8_wakeTime_b4 n) ih F2 v0 v2 v1 h
      · refine pw_aload_n hO dX8_wakeTime_19 0 rfl ?_
        refine pw_iload_n hO dX8_wakeTime_20 2 rfl ?_
        refine pw_SI (as := [.int v2]) (st := [.ref v0]) (d := 0) hO [.int v2, .ref v0] dX8_wakeTime_21 sl_X8_65 h (fun r F1 hg n => ct_X8_at hg) ⟨Nat.le_of_ble_eq_true rfl, Nat.le_of_ble_eq_true rfl⟩ ⟨Nat.zero_le _, Nat.zero_le _⟩ (Nat.le_of_ble_eq_true rfl) (fun _ _ => rfl) rfl (fun x14 F13 h => ?_)
        refine pw_iald hO dX8_wakeTime_24 h (fun x15 h => ?_)
        refine pw_goto (tgt := 29) hO dX8_wakeTime_25 (by decide) ?_
        refine pw_sub (lv1 := [(0, .ref v0), (2, .int v2)]) [0, 2] rfl ?_
        exact bl_X8_wakeTime_b29 hX (g_X8_wakeTime_b4 n) ih F13 v0 v2 x15 h
def g_X8_wakeTime (F : Hp) (a0 : Nat) : Option (Int32 × Hp) := g_X8_wakeTime_b4 gF F a0 0 0
set_option maxHeartbeats 4000000 in
theorem bl_X8_wakeTime {X : Cx} {rx : Int32} {F' : Hp} (hX : Md X cX8_wakeTime RX8 3 (rmd 1) (some FieldType.int) false (some (.int rx)) F') (F : Hp) (a0 : Nat) (h : g_X8_wakeTime F a0 = some (rx, F')) : PW X 0 0 F 0 [(0, .ref a0)] [] := by
  have hO := hX.1
  unfold g_X8_wakeTime at h
  refine pw_iconst hO dX8_wakeTime_0 (v := 0) (by decide) ?_
  refine pw_istore_n hO [(1, .int 0), (0, .ref a0)] dX8_wakeTime_1 (by decide) rfl ?_
  refine pw_iconst hO dX8_wakeTime_2 (v := 0) (by decide) ?_
  refine pw_istore_n hO [(2, .int 0), (1, .int 0), (0, .ref a0)] dX8_wakeTime_3 (by decide) rfl ?_
  refine pw_sub (lv1 := [(0, .ref a0), (1, .int 0), (2, .int 0)]) [2, 1, 0] rfl ?_
  exact bl_X8_wakeTime_b4 hX gF F a0 0 0 h
theorem ct_X8_wakeTime {n : Nat} {F : Hp} {a0 : Nat} {rx : Int32} {F' : Hp} (h : g_X8_wakeTime F a0 = some (rx, F')) : CT yX8_wakeTime cX8_wakeTime 3 (some FieldType.int) (rmd 1) n F [.ref a0] (some (.int rx)) F' :=
  ct_intro (own := RX8) (nm := false) (by decide) rfl (fun h => by cases h) (Nat.le_of_ble_eq_true rfl) (fun X hn hX => bl_X8_wakeTime hX F a0 h)
def g_X8_isEmpty (F : Hp) (a0 : Nat) : Option (Int32 × Hp) := (bnd2 (g_X8_at F 0) fun x2 F1 => ((aI F1 a0 0 (x2 + 4)).bind fun x3 => (if x3 = 0 then (bnd2 (g_X8_at F1 1) fun x6 F5 => ((aI F5 a0 0 (x6 + 4)).bind fun x7 => (if x7 = 0 then some (1, F5) else some (0, F5)))) else some (0, F1))))
set_option maxHeartbeats 4000000 in
theorem bl_X8_isEmpty {X : Cx} {rx : Int32} {F' : Hp} (hX : Md X cX8_isEmpty RX8 1 (rmd 1) (some FieldType.boolean) false (some (.int rx)) F') (F : Hp) (a0 : Nat) (h : g_X8_isEmpty F a0 = some (rx, F')) : PW X 0 0 F 0 [(0, .ref a0)] [] := by
  have hO := hX.1
  unfold g_X8_isEmpty at h
  refine pw_aload_n hO dX8_isEmpty_0 0 rfl ?_
  refine pw_iconst hO dX8_isEmpty_1 (v := 0) (by decide) ?_
  refine pw_SI (as := [.int 0]) (st := [.ref a0]) (d := 0) hO [.int 0, .ref a0] dX8_isEmpty_2 sl_X8_65 h (fun r F1 hg n => ct_X8_at hg) ⟨Nat.le_of_ble_eq_true rfl, Nat.le_of_ble_eq_true rfl⟩ ⟨Nat.zero_le _, Nat.zero_le _⟩ (Nat.le_of_ble_eq_true rfl) (fun _ _ => rfl) rfl (fun x2 F1 h => ?_)
  refine pw_iconst hO dX8_isEmpty_5 (v := 4) (by decide) ?_
  refine pw_iadd hO dX8_isEmpty_6 ?_
  refine pw_iald hO dX8_isEmpty_7 h (fun x3 h => ?_)
  refine pw_if_ne (tgt := 26) hO dX8_isEmpty_8 (by decide) h (fun c4 h => ?_) (fun c4 h => ?_)
  · refine pw_iconst hO dX8_isEmpty_26 (v := 0) (by decide) ?_
    exact pw_zretc hO hX.2 dX8_isEmpty_27 (Or.inl rfl) h
  · refine pw_aload_n hO dX8_isEmpty_11 0 rfl ?_
    refine pw_iconst hO dX8_isEmpty_12 (v := 1) (by decide) ?_
    refine pw_SI (as := [.int 1]) (st := [.ref a0]) (d := 0) hO [.int 1, .ref a0] dX8_isEmpty_13 sl_X8_65 h (fun r F1 hg n => ct_X8_at hg) ⟨Nat.le_of_ble_eq_true rfl, Nat.le_of_ble_eq_true rfl⟩ ⟨Nat.zero_le _, Nat.zero_le _⟩ (Nat.le_of_ble_eq_true rfl) (fun _ _ => rfl) rfl (fun x6 F5 h => ?_)
    refine pw_iconst hO dX8_isEmpty_16 (v := 4) (by decide) ?_
    refine pw_iadd hO dX8_isEmpty_17 ?_
    refine pw_iald hO dX8_isEmpty_18 h (fun x7 h => ?_)
    refine pw_if_ne (tgt := 26) hO dX8_isEmpty_19 (by decide) h (fun c8 h => ?_) (fun c8 h => ?_)
    · refine pw_iconst hO dX8_isEmpty_26 (v := 0) (by decide) ?_
      exact pw_zretc hO hX.2 dX8_isEmpty_27 (Or.inl rfl) h
    · refine pw_iconst hO dX8_isEmpty_22 (v := 1) (by decide) ?_
      refine pw_goto (tgt := 27) hO dX8_isEmpty_23 (by decide) ?_
      exact pw_zretc hO hX.2 dX8_isEmpty_27 (Or.inr rfl) h
theorem ct_X8_isEmpty {n : Nat} {F : Hp} {a0 : Nat} {rx : Int32} {F' : Hp} (h : g_X8_isEmpty F a0 = some (rx, F')) : CT yX8_isEmpty cX8_isEmpty 1 (some FieldType.boolean) (rmd 1) n F [.ref a0] (some (.int rx)) F' :=
  ct_intro (own := RX8) (nm := false) (by decide) rfl (fun h => by cases h) (Nat.le_of_ble_eq_true rfl) (fun X hn hX => bl_X8_isEmpty hX F a0 h)
def g_X8_sendOn_b148 (F : Hp) (s0 : Nat) (s1 : Int32) (s2 : Int32) : Option Hp := ((sI F s0 0 s1 s2).bind fun F25 => some F25)
set_option maxHeartbeats 4000000 in
theorem bl_X8_sendOn_b148 {X : Cx} {F' : Hp} (hX : Md X cX8_sendOn RX8 5 (rmd 1) none false none F') (F : Hp) (s0 : Nat) (s1 : Int32) (s2 : Int32) (h : g_X8_sendOn_b148 F s0 s1 s2 = some F') : PW X 0 0 F 148 [] [.int s2, .int s1, .ref s0] := by
  have hO := hX.1
  unfold g_X8_sendOn_b148 at h
  refine pw_iast hO dX8_sendOn_148 h (fun F25 h => ?_)
  exact pw_vret hO hX.2 dX8_sendOn_149 h
def g_X8_sendOn_b114 (F : Hp) (v0 : Nat) (v1 : Int32) (v3 : Int32) (s0 : Nat) (s1 : Int32) (s2 : Int32) : Option Hp := ((sI F s0 0 s1 s2).bind fun F18 => (bnd2 (g_X8_at F18 (1 - v1)) fun x20 F19 => (if (jrem v3 10) ≤ 0 then (bnd2 (g_X8_at F19 (1 - v1)) fun x23 F22 => ((aI F22 v0 0 (x23 + 3)).bind fun x24 => g_X8_sendOn_b148 F22 v0 ((x20 + 3)) x24)) else g_X8_sendOn_b148 F19 v0 ((x20 + 3)) ((jrem v3 10)))))
set_option maxHeartbeats 4000000 in
theorem bl_X8_sendOn_b114 {X : Cx} {F' : Hp} (hX : Md X cX8_sendOn RX8 5 (rmd 1) none false none F') (F : Hp) (v0 : Nat) (v1 : Int32) (v3 : Int32) (s0 : Nat) (s1 : Int32) (s2 : Int32) (h : g_X8_sendOn_b114 F v0 v1 v3 s0 s1 s2 = some F') : PW X 0 0 F 114 [(0, .ref v0), (1, .int v1), (3, .int v3)] [.int s2, .int s1, .ref s0] := by
  have hO := hX.1
  unfold g_X8_sendOn_b114 at h
  refine pw_iast hO dX8_sendOn_114 h (fun F18 h => ?_)
  refine pw_aload_n hO dX8_sendOn_115 0 rfl ?_
  refine pw_iconst hO dX8_sendOn_116 (v := 1) (by decide) ?_
  refine pw_iload_n hO dX8_sendOn_117 1 rfl ?_
  refine pw_isub hO dX8_sendOn_118 ?_
  refine pw_SI (as := [.int (1 - v1)]) (st := [.ref v0]) (d := 0) hO [.int (1 - v1), .ref v0] dX8_sendOn_119 sl_X8_65 h (fun r F1 hg n => ct_X8_at hg) ⟨Nat.le_of_ble_eq_true rfl, Nat.le_of_ble_eq_true rfl⟩ ⟨Nat.zero_le _, Nat.zero_le _⟩ (Nat.le_of_ble_eq_true rfl) (fun _ _ => rfl) rfl (fun x20 F19 h => ?_)
  refine pw_iconst hO dX8_sendOn_122 (v := 3) (by decide) ?_
  refine pw_iadd hO dX8_sendOn_123 ?_
  refine pw_iload_n hO dX8_sendOn_124 2 rfl ?_
  refine pw_bipush hO dX8_sendOn_125 (v := 10) (by decide) ?_
  refine pw_iremc hO dX8_sendOn_127 (by decide) ?_
  refine pw_if_le (tgt := 138) hO dX8_sendOn_128 (by decide) h (fun c21 h => ?_) (fun c21 h => ?_)
  · refine pw_aload_n hO dX8_sendOn_138 0 rfl ?_
    refine pw_iconst hO dX8_sendOn_139 (v := 1) (by decide) ?_
    refine pw_iload_n hO dX8_sendOn_140 1 rfl ?_
    refine pw_isub hO dX8_sendOn_141 ?_
    refine pw_SI (as := [.int (1 - v1)]) (st := [.ref v0, .int (x20 + 3), .ref v0]) (d := 0) hO [.int (1 - v1), .ref v0, .int (x20 + 3), .ref v0] dX8_sendOn_142 sl_X8_65 h (fun r F1 hg n => ct_X8_at hg) ⟨Nat.le_of_ble_eq_true rfl, Nat.le_of_ble_eq_true rfl⟩ ⟨Nat.zero_le _, Nat.zero_le _⟩ (Nat.le_of_ble_eq_true rfl) (fun _ _ => rfl) rfl (fun x23 F22 h => ?_)
    refine pw_iconst hO dX8_sendOn_145 (v := 3) (by decide) ?_
    refine pw_iadd hO dX8_sendOn_146 ?_
    refine pw_iald hO dX8_sendOn_147 h (fun x24 h => ?_)
    refine pw_sub (lv1 := []) [] rfl ?_
    exact bl_X8_sendOn_b148 hX F22 v0 ((x20 + 3)) x24 h
  · refine pw_iload_n hO dX8_sendOn_131 2 rfl ?_
    refine pw_bipush hO dX8_sendOn_132 (v := 10) (by decide) ?_
    refine pw_iremc hO dX8_sendOn_134 (by decide) ?_
    refine pw_goto (tgt := 148) hO dX8_sendOn_135 (by decide) ?_
    refine pw_sub (lv1 := []) [] rfl ?_
    exact bl_X8_sendOn_b148 hX F19 v0 ((x20 + 3)) ((jrem v3 10)) h
def g_X8_sendOn_b22 : Nat → Hp → Nat → Int32 → Int32 → Int32 → Int32 → Option Hp
  | 0, _, _, _, _, _, _ => none
  | n + 1, F, v0, v1, v2, v3, v4 => ((aI F v0 0 (v2 + 4)).bind fun x6 => (if x6 ≤ (v4 + 1) then ((aI F v0 0 (v2 + 4)).bind fun x8 => ((sI F v0 0 (v2 + 4) (x8 - 1)).bind fun F9 => ((aI F9 v0 0 3).bind fun x10 => ((aI F9 v0 0 5).bind fun x11 => ((sI F9 v0 0 5 (x11 + 1)).bind fun F12 => ((aI F12 v0 0 6).bind fun x13 => ((sI F12 v0 0 6 (x13 + (x10 - (v3 / 10)))).bind fun F14 => ((aI F14 v0 0 7).bind fun x15 => (if (x10 - (v3 / 10)) ≤ x15 then ((aI F14 v0 0 7).bind fun x17 => g_X8_sendOn_b114 F14 v0 v1 v3 v0 7 x17) else g_X8_sendOn_b114 F14 v0 v1 v3 v0 7 ((x10 - (v3 / 10)))))))))))) else ((aI F v0 0 (((v2 + 5) + v4) + 1)).bind fun x26 => ((sI F v0 0 ((v2 + 5) + v4) x26).bind fun F27 => g_X8_sendOn_b22 n F27 v0 v1 v2 v3 ((v4 + 1))))))
set_option maxHeartbeats 4000000 in
theorem bl_X8_sendOn_b22 {X : Cx} {F' : Hp} (hX : Md X cX8_sendOn RX8 5 (rmd 1) none false none F') : ∀ (n : Nat) (F : Hp) (v0 : Nat) (v1 : Int32) (v2 : Int32) (v3 : Int32) (v4 : Int32), g_X8_sendOn_b22 n F v0 v1 v2 v3 v4 = some F' → PW X 0 0 F 22 [(0, .ref v0), (1, .int v1), (2, .int v2), (3, .int v3), (4, .int v4)] [] := by
  have hO := hX.1
  intro n
  induction n with
  | zero => intro F v0 v1 v2 v3 v4 h; rw [g_X8_sendOn_b22] at h; cases h
  | succ n ih =>
    intro F v0 v1 v2 v3 v4 h
    rw [g_X8_sendOn_b22] at h
    refine pw_iload hO dX8_sendOn_22 4 rfl ?_
    refine pw_iconst hO dX8_sendOn_24 (v := 1) (by decide) ?_
    refine pw_iadd hO dX8_sendOn_25 ?_
    refine pw_aload_n hO dX8_sendOn_26 0 rfl ?_
    refine pw_iload_n hO dX8_sendOn_27 2 rfl ?_
    refine pw_iconst hO dX8_sendOn_28 (v := 4) (by decide) ?_
    refine pw_iadd hO dX8_sendOn_29 ?_
    refine pw_iald hO dX8_sendOn_30 h (fun x6 h => ?_)
    refine pw_icmp_ge (tgt := 58) hO dX8_sendOn_31 (by decide) h (fun c7 h => ?_) (fun c7 h => ?_)
    · refine pw_aload_n hO dX8_sendOn_58 0 rfl ?_
      refine pw_iload_n hO dX8_sendOn_59 2 rfl ?_
      refine pw_iconst hO dX8_sendOn_60 (v := 4) (by decide) ?_
      refine pw_iadd hO dX8_sendOn_61 ?_
      refine pw_dup2 hO dX8_sendOn_62 rfl rfl ?_
      refine pw_iald hO dX8_sendOn_63 h (fun x8 h => ?_)
      refine pw_iconst hO dX8_sendOn_64 (v := 1) (by decide) ?_
      refine pw_isub hO dX8_sendOn_65 ?_
      refine pw_iast hO dX8_sendOn_66 h (fun F9 h => ?_)
      refine pw_aload_n hO dX8_sendOn_67 0 rfl ?_
      refine pw_iconst hO dX8_sendOn_68 (v := 3) (by decide) ?_
      refine pw_iald hO dX8_sendOn_69 h (fun x10 h => ?_)
      refine pw_iload_n hO dX8_sendOn_70 3 rfl ?_
      refine pw_bipush hO dX8_sendOn_71 (v := 10) (by decide) ?_
      refine pw_idivc hO dX8_sendOn_73 (by decide) ?_
      refine pw_isub hO dX8_sendOn_74 ?_
      refine pw_istore hO [(4, .int (x10 - (v3 / 10))), (0, .ref v0), (1, .int v1), (2, .int v2), (3, .int v3)] dX8_sendOn_75 (by decide) rfl ?_
      refine pw_aload_n hO dX8_sendOn_77 1 rfl ?_
      refine pw_iconst hO dX8_sendOn_78 (v := 5) (by decide) ?_
      refine pw_dup2 hO dX8_sendOn_79 rfl rfl ?_
      refine pw_iald hO dX8_sendOn_80 h (fun x11 h => ?_)
      refine pw_iconst hO dX8_sendOn_81 (v := 1) (by decide) ?_
      refine pw_iadd hO dX8_sendOn_82 ?_
      refine pw_iast hO dX8_sendOn_83 h (fun F12 h => ?_)
      refine pw_aload_n hO dX8_sendOn_84 1 rfl ?_
      refine pw_bipush hO dX8_sendOn_85 (v := 6) (by decide) ?_
      refine pw_dup2 hO dX8_sendOn_87 rfl rfl ?_
      refine pw_iald hO dX8_sendOn_88 h (fun x13 h => ?_)
      refine pw_iload hO dX8_sendOn_89 0 rfl ?_
      refine pw_iadd hO dX8_sendOn_91 ?_
      refine pw_iast hO dX8_sendOn_92 h (fun F14 h => ?_)
      refine pw_aload_n hO dX8_sendOn_93 1 rfl ?_
      refine pw_bipush hO dX8_sendOn_94 (v := 7) (by decide) ?_
      refine pw_iload hO dX8_sendOn_96 0 rfl ?_
      refine pw_aload_n hO dX8_sendOn_98 1 rfl ?_
      refine pw_bipush hO dX8_sendOn_99 (v := 7) (by decide) ?_
      refine pw_iald hO dX8_sendOn_101 h (fun x15 h => ?_)
      refine pw_icmp_le (tgt := 110) hO dX8_sendOn_102 (by decide) h (fun c16 h => ?_) (fun c16 h => ?_)
      · refine pw_aload_n hO dX8_sendOn_110 1 rfl ?_
        refine pw_bipush hO dX8_sendOn_111 (v := 7) (by decide) ?_
        refine pw_iald hO dX8_sendOn_113 h (fun x17 h => ?_)
        refine pw_sub (lv1 := [(0, .ref v0), (1, .int v1), (3, .int v3)]) [1, 2, 4] rfl ?_
        exact bl_X8_sendOn_b114 hX F14 v0 v1 v3 v0 7 x17 h
      · refine pw_iload hO dX8_sendOn_105 0 rfl ?_
        refine pw_goto (tgt := 114) hO dX8_sendOn_107 (by decide) ?_
        refine pw_sub (lv1 := [(0, .ref v0), (1, .int v1), (3, .int v3)]) [1, 2, 4] rfl ?_
        exact bl_X8_sendOn_b114 hX F14 v0 v1 v3 v0 7 ((x10 - (v3 / 10))) h
    · refine pw_aload_n hO dX8_sendOn_34 0 rfl ?_
      refine pw_iload_n hO dX8_sendOn_35 2 rfl ?_
      refine pw_iconst hO dX8_sendOn_36 (v := 5) (by decide) ?_
      refine pw_iadd hO dX8_sendOn_37 ?_
      refine pw_iload hO dX8_sendOn_38 4 rfl ?_
      refine pw_iadd hO dX8_sendOn_40 ?_
      refine pw_aload_n hO dX8_sendOn_41 0 rfl ?_
      refine pw_iload_n hO dX8_sendOn_42 2 rfl ?_
      refine pw_iconst hO dX8_sendOn_43 (v := 5) (by decide) ?_
      refine pw_iadd hO dX8_sendOn_44 ?_
      refine pw_iload hO dX8_sendOn_45 4 rfl ?_
      refine pw_iadd hO dX8_sendOn_47 ?_
      refine pw_iconst hO dX8_sendOn_48 (v := 1) (by decide) ?_
      refine pw_iadd hO dX8_sendOn_49 ?_
      refine pw_iald hO dX8_sendOn_50 h (fun x26 h => ?_)
      refine pw_iast hO dX8_sendOn_51 h (fun F27 h => ?_)
      refine pw_iinc hO [(4, .int (v4 + 1)), (0, .ref v0), (1, .int v1), (2, .int v2), (3, .int v3)] dX8_sendOn_52 4 rfl rfl (by decide) rfl ?_
      refine pw_goto (tgt := 22) hO dX8_sendOn_55 (by decide) ?_
      refine pw_sub (lv1 := [(0, .ref v0), (1, .int v1), (2, .int v2), (3, .int v3), (4, .int (v4 + 1))]) [1, 2, 3, 4, 0] rfl ?_
      exact ih F27 v0 v1 v2 v3 ((v4 + 1)) h
def g_X8_sendOn (F : Hp) (a0 : Nat) (a1 : Int32) : Option Hp := (bnd2 (g_X8_at F a1) fun x2 F1 => ((aI F1 a0 0 (x2 + 4)).bind fun x3 => (if x3 ≤ 0 then some F1 else ((aI F1 a0 0 (x2 + 5)).bind fun x5 => g_X8_sendOn_b22 gF F1 a0 a1 x2 x5 0))))
set_option maxHeartbeats 4000000 in
theorem bl_X8_sendOn {X : Cx} {F' : Hp} (hX : Md X cX8_sendOn RX8 5 (rmd 1) none false none F') (F : Hp) (a0 : Nat) (a1 : Int32) (h : g_X8_sendOn F a0 a1 = some F') : PW X 0 0 F 0 [(0, .ref a0), (1, .int a1)] [] := by
  have hO := hX.1
  unfold g_X8_sendOn at h
  refine pw_iload_n hO dX8_sendOn_0 1 rfl ?_
  refine pw_SI (as := [.int a1]) (st := []) (d := 0) hO [.int a1] dX8_sendOn_1 sl_X8_65 h (fun r F1 hg n => ct_X8_at hg) ⟨Nat.le_of_ble_eq_true rfl, Nat.le_of_ble_eq_true rfl⟩ ⟨Nat.zero_le _, Nat.zero_le _⟩ (Nat.le_of_ble_eq_true rfl) (fun _ _ => rfl) rfl (fun x2 F1 h => ?_)
  refine pw_istore_n hO [(2, .int x2), (0, .ref a0), (1, .int a1)] dX8_sendOn_4 (by decide) rfl ?_
  refine pw_aload_n hO dX8_sendOn_5 1 rfl ?_
  refine pw_iload_n hO dX8_sendOn_6 0 rfl ?_
  refine pw_iconst hO dX8_sendOn_7 (v := 4) (by decide) ?_
  refine pw_iadd hO dX8_sendOn_8 ?_
  refine pw_iald hO dX8_sendOn_9 h (fun x3 h => ?_)
  refine pw_if_le (tgt := 149) hO dX8_sendOn_10 (by decide) h (fun c4 h => ?_) (fun c4 h => ?_)
  · exact pw_vret hO hX.2 dX8_sendOn_149 h
  · refine pw_aload_n hO dX8_sendOn_13 1 rfl ?_
    refine pw_iload_n hO dX8_sendOn_14 0 rfl ?_
    refine pw_iconst hO dX8_sendOn_15 (v := 5) (by decide) ?_
    refine pw_iadd hO dX8_sendOn_16 ?_
    refine pw_iald hO dX8_sendOn_17 h (fun x5 h => ?_)
    refine pw_istore_n hO [(3, .int x5), (2, .int x2), (0, .ref a0), (1, .int a1)] dX8_sendOn_18 (by decide) rfl ?_
    refine pw_iconst hO dX8_sendOn_19 (v := 0) (by decide) ?_
    refine pw_istore hO [(4, .int 0), (3, .int x5), (2, .int x2), (0, .ref a0), (1, .int a1)] dX8_sendOn_20 (by decide) rfl ?_
    refine pw_sub (lv1 := [(0, .ref a0), (1, .int a1), (2, .int x2), (3, .int x5), (4, .int 0)]) [3, 4, 2, 1, 0] rfl ?_
    exact bl_X8_sendOn_b22 hX gF F1 a0 a1 x2 x5 0 h
theorem ct_X8_sendOn {n : Nat} {F : Hp} {a0 : Nat} {a1 : Int32} {F' : Hp} (h : g_X8_sendOn F a0 a1 = some F') : CT yX8_sendOn cX8_sendOn 5 none (rmd 1) n F [.ref a0, .int a1] none F' :=
  ct_intro (own := RX8) (nm := false) (by decide) rfl (fun h => by cases h) (Nat.le_of_ble_eq_true rfl) (fun X hn hX => bl_X8_sendOn hX F a0 a1 h)
def g_X8_tick_b192 (F : Hp) (s0 : Nat) (s1 : Int32) (s2 : Int32) : Option Hp := ((sI F s0 0 s1 s2).bind fun F17 => some F17)
set_option maxHeartbeats 4000000 in
theorem bl_X8_tick_b192 {X : Cx} {F' : Hp} (hX : Md X cX8_tick RX8 3 (rmd 2) none false none F') (F : Hp) (s0 : Nat) (s1 : Int32) (s2 : Int32) (h : g_X8_tick_b192 F s0 s1 s2 = some F') : PW X 0 0 F 192 [] [.int s2, .int s1, .ref s0] := by
  have hO := hX.1
  unfold g_X8_tick_b192 at h
  refine pw_iast hO dX8_tick_192 h (fun F17 h => ?_)
  exact pw_vret hO hX.2 dX8_tick_193 h
def g_X8_tick_b154 (F : Hp) (v1 : Nat) : Option Hp := ((sI F v1 0 0 3).bind fun F23 => (bnd2 (g_X8_wakeTime F23 v1) fun x25 F24 => ((sI F24 v1 0 1 x25).bind fun F26 => ((sI F26 v1 0 2 0).bind fun F27 => some F27))))
set_option maxHeartbeats 4000000 in
theorem bl_X8_tick_b154 {X : Cx} {F' : Hp} (hX : Md X cX8_tick RX8 3 (rmd 2) none false none F') (F : Hp) (v1 : Nat) (h : g_X8_tick_b154 F v1 = some F') : PW X 0 0 F 154 [(1, .ref v1)] [] := by
  have hO := hX.1
  unfold g_X8_tick_b154 at h
  refine pw_aload_n hO dX8_tick_154 0 rfl ?_
  refine pw_iconst hO dX8_tick_155 (v := 0) (by decide) ?_
  refine pw_iconst hO dX8_tick_156 (v := 3) (by decide) ?_
  refine pw_iast hO dX8_tick_157 h (fun F23 h => ?_)
  refine pw_aload_n hO dX8_tick_158 0 rfl ?_
  refine pw_iconst hO dX8_tick_159 (v := 1) (by decide) ?_
  refine pw_aload_n hO dX8_tick_160 0 rfl ?_
  refine pw_SI (as := [.ref v1]) (st := [.int 1, .ref v1]) (d := 1) hO [.ref v1, .int 1, .ref v1] dX8_tick_161 sl_X8_85 h (fun r F1 hg n => ct_X8_wakeTime hg) ⟨Nat.le_of_ble_eq_true rfl, Nat.le_of_ble_eq_true rfl⟩ ⟨Nat.zero_le _, Nat.zero_le _⟩ (Nat.le_of_ble_eq_true rfl) (fun _ _ => rfl) rfl (fun x25 F24 h => ?_)
  refine pw_iast hO dX8_tick_164 h (fun F26 h => ?_)
  refine pw_aload_n hO dX8_tick_165 0 rfl ?_
  refine pw_iconst hO dX8_tick_166 (v := 2) (by decide) ?_
  refine pw_iconst hO dX8_tick_167 (v := 0) (by decide) ?_
  refine pw_iast hO dX8_tick_168 h (fun F27 h => ?_)
  refine pw_goto (tgt := 193) hO dX8_tick_169 (by decide) ?_
  exact pw_vret hO hX.2 dX8_tick_193 h
def g_X8_tick_b116 (F : Hp) (v1 : Nat) (s0 : Nat) (s1 : Int32) (s2 : Int32) : Option Hp := ((sI F s0 0 s1 s2).bind fun F35 => ((sI F35 v1 0 2 0).bind fun F36 => some F36))
set_option maxHeartbeats 4000000 in
theorem bl_X8_tick_b116 {X : Cx} {F' : Hp} (hX : Md X cX8_tick RX8 3 (rmd 2) none false none F') (F : Hp) (v1 : Nat) (s0 : Nat) (s1 : Int32) (s2 : Int32) (h : g_X8_tick_b116 F v1 s0 s1 s2 = some F') : PW X 0 0 F 116 [(1, .ref v1)] [.int s2, .int s1, .ref s0] := by
  have hO := hX.1
  unfold g_X8_tick_b116 at h
  refine pw_iast hO dX8_tick_116 h (fun F35 h => ?_)
  refine pw_aload_n hO dX8_tick_117 0 rfl ?_
  refine pw_iconst hO dX8_tick_118 (v := 2) (by decide) ?_
  refine pw_iconst hO dX8_tick_119 (v := 0) (by decide) ?_
  refine pw_iast hO dX8_tick_120 h (fun F36 h => ?_)
  refine pw_goto (tgt := 193) hO dX8_tick_121 (by decide) ?_
  exact pw_vret hO hX.2 dX8_tick_193 h
def g_X8_tick_b36 (F : Hp) (v0 : Nat) (v1 : Nat) (v2 : Int32) (s0 : Nat) (s1 : Int32) (s2 : Int32) (s3 : Int32) : Option Hp := ((sI F s0 0 s1 (s2 + s3)).bind fun F7 => ((aI F7 v1 0 3).bind fun x8 => ((sI F7 v1 0 3 (x8 + 1)).bind fun F9 => (if v2 = 0 then ((g_X8_sendOn F9 v1 0).bind fun F37 => ((g_X8_sendOn F37 v1 1).bind fun F39 => (bnd2 (g_X8_isEmpty F39 v1) fun x42 F41 => (if x42 = 0 then some F41 else ((gI F41 v0 8 21).bind fun x44 => (bnd2 (g_X8_has F41 x44 2) fun x46 F45 => (if x46 = 0 then some F45 else ((sI F45 v1 0 0 1).bind fun F48 => ((aI F48 v1 0 9).bind fun x49 => ((sI F48 v1 0 1 x49).bind fun F50 => some F50)))))))))) else (if v2 = 1 then ((aI F9 v1 0 1).bind fun x31 => ((sI F9 v1 0 1 (x31 - 1)).bind fun F32 => ((aI F32 v1 0 1).bind fun x33 => (if x33 = 0 then g_X8_tick_b116 F32 v1 v1 0 2 else g_X8_tick_b116 F32 v1 v1 0 1)))) else (if v2 = 2 then ((aI F9 v1 0 2).bind fun x18 => ((sI F9 v1 0 2 (x18 + 1)).bind fun F19 => (ckO F19 v0 8 (bnd2 (g_X8_isDue F19 v0 v1 0) fun x21 F20 => (if x21 = 0 then (ckO F20 v0 8 (bnd2 (g_X8_isDue F20 v0 v1 1) fun x29 F28 => (if x29 = 0 then some F28 else g_X8_tick_b154 F28 v1))) else g_X8_tick_b154 F20 v1))))) else ((aI F9 v1 0 1).bind fun x13 => ((sI F9 v1 0 1 (x13 - 1)).bind fun F14 => ((aI F14 v1 0 1).bind fun x15 => (if x15 = 0 then g_X8_tick_b192 F14 v1 0 0 else g_X8_tick_b192 F14 v1 0 3))))))))))
set_option maxHeartbeats 4000000 in
theorem bl_X8_tick_b36 {X : Cx} {F' : Hp} (hX : Md X cX8_tick RX8 3 (rmd 2) none false none F') (F : Hp) (v0 : Nat) (v1 : Nat) (v2 : Int32) (s0 : Nat) (s1 : Int32) (s2 : Int32) (s3 : Int32) (h : g_X8_tick_b36 F v0 v1 v2 s0 s1 s2 s3 = some F') : PW X 0 0 F 36 [(0, .ref v0), (1, .ref v1), (2, .int v2)] [.int s3, .int s2, .int s1, .ref s0] := by
  have hO := hX.1
  unfold g_X8_tick_b36 at h
  refine pw_iadd hO dX8_tick_36 ?_
  refine pw_iast hO dX8_tick_37 h (fun F7 h => ?_)
  refine pw_aload_n hO dX8_tick_38 1 rfl ?_
  refine pw_iconst hO dX8_tick_39 (v := 3) (by decide) ?_
  refine pw_dup2 hO dX8_tick_40 rfl rfl ?_
  refine pw_iald hO dX8_tick_41 h (fun x8 h => ?_)
  refine pw_iconst hO dX8_tick_42 (v := 1) (by decide) ?_
  refine pw_iadd hO dX8_tick_43 ?_
  refine pw_iast hO dX8_tick_44 h (fun F9 h => ?_)
  refine pw_iload_n hO dX8_tick_45 2 rfl ?_
  refine pw_if_ne (tgt := 91) hO dX8_tick_46 (by decide) h (fun c10 h => ?_) (fun c10 h => ?_)
  · refine pw_iload_n hO dX8_tick_91 2 rfl ?_
    refine pw_iconst hO dX8_tick_92 (v := 1) (by decide) ?_
    refine pw_icmp_ne (tgt := 124) hO dX8_tick_93 (by decide) h (fun c11 h => ?_) (fun c11 h => ?_)
    · refine pw_iload_n hO dX8_tick_124 2 rfl ?_
      refine pw_iconst hO dX8_tick_125 (v := 2) (by decide) ?_
      refine pw_icmp_ne (tgt := 172) hO dX8_tick_126 (by decide) h (fun c12 h => ?_) (fun c12 h => ?_)
      · refine pw_aload_n hO dX8_tick_172 1 rfl ?_
        refine pw_iconst hO dX8_tick_173 (v := 1) (by decide) ?_
        refine pw_dup2 hO dX8_tick_174 rfl rfl ?_
        refine pw_iald hO dX8_tick_175 h (fun x13 h => ?_)
        refine pw_iconst hO dX8_tick_176 (v := 1) (by decide) ?_
        refine pw_isub hO dX8_tick_177 ?_
        refine pw_iast hO dX8_tick_178 h (fun F14 h => ?_)
        refine pw_aload_n hO dX8_tick_179 1 rfl ?_
        refine pw_iconst hO dX8_tick_180 (v := 0) (by decide) ?_
        refine pw_aload_n hO dX8_tick_181 1 rfl ?_
        refine pw_iconst hO dX8_tick_182 (v := 1) (by decide) ?_
        refine pw_iald hO dX8_tick_183 h (fun x15 h => ?_)
        refine pw_if_ne (tgt := 191) hO dX8_tick_184 (by decide) h (fun c16 h => ?_) (fun c16 h => ?_)
        · refine pw_iconst hO dX8_tick_191 (v := 3) (by decide) ?_
          refine pw_sub (lv1 := []) [] rfl ?_
          exact bl_X8_tick_b192 hX F14 v1 0 3 h
        · refine pw_iconst hO dX8_tick_187 (v := 0) (by decide) ?_
          refine pw_goto (tgt := 192) hO dX8_tick_188 (by decide) ?_
          refine pw_sub (lv1 := []) [] rfl ?_
          exact bl_X8_tick_b192 hX F14 v1 0 0 h
      · refine pw_aload_n hO dX8_tick_129 1 rfl ?_
        refine pw_iconst hO dX8_tick_130 (v := 2) (by decide) ?_
        refine pw_dup2 hO dX8_tick_131 rfl rfl ?_
        refine pw_iald hO dX8_tick_132 h (fun x18 h => ?_)
        refine pw_iconst hO dX8_tick_133 (v := 1) (by decide) ?_
        refine pw_iadd hO dX8_tick_134 ?_
        refine pw_iast hO dX8_tick_135 h (fun F19 h => ?_)
        refine pw_aload_n hO dX8_tick_136 0 rfl ?_
        refine pw_aload_n hO dX8_tick_137 1 rfl ?_
        refine pw_iconst hO dX8_tick_138 (v := 0) (by decide) ?_
        refine pw_VI (a := v0) (ci := 8) (as := [.ref v1, .int 0]) (st := []) (d := 1) hO [.int 0, .ref v1, .ref v0] dX8_tick_139 vl_X8_81 h (fun r F1 hg n => ct_X8_isDue hg) ⟨Nat.le_of_ble_eq_true rfl, Nat.le_of_ble_eq_true rfl⟩ ⟨Nat.zero_le _, Nat.zero_le _⟩ (Nat.le_of_ble_eq_true rfl) (fun _ _ => rfl) rfl (fun x21 F20 h => ?_)
        refine pw_if_ne (tgt := 154) hO dX8_tick_142 (by decide) h (fun c22 h => ?_) (fun c22 h => ?_)
        · refine pw_sub (lv1 := [(1, .ref v1)]) [1] rfl ?_
          exact bl_X8_tick_b154 hX F20 v1 h
        · refine pw_aload_n hO dX8_tick_145 0 rfl ?_
          refine pw_aload_n hO dX8_tick_146 1 rfl ?_
          refine pw_iconst hO dX8_tick_147 (v := 1) (by decide) ?_
          refine pw_VI (a := v0) (ci := 8) (as := [.ref v1, .int 1]) (st := []) (d := 1) hO [.int 1, .ref v1, .ref v0] dX8_tick_148 vl_X8_81 h (fun r F1 hg n => ct_X8_isDue hg) ⟨Nat.le_of_ble_eq_true rfl, Nat.le_of_ble_eq_true rfl⟩ ⟨Nat.zero_le _, Nat.zero_le _⟩ (Nat.le_of_ble_eq_true rfl) (fun _ _ => rfl) rfl (fun x29 F28 h => ?_)
          refine pw_if_eq (tgt := 193) hO dX8_tick_151 (by decide) h (fun c30 h => ?_) (fun c30 h => ?_)
          · exact pw_vret hO hX.2 dX8_tick_193 h
          · refine pw_sub (lv1 := [(1, .ref v1)]) [1] rfl ?_
            exact bl_X8_tick_b154 hX F28 v1 h
    · refine pw_aload_n hO dX8_tick_96 1 rfl ?_
      refine pw_iconst hO dX8_tick_97 (v := 1) (by decide) ?_
      refine pw_dup2 hO dX8_tick_98 rfl rfl ?_
      refine pw_iald hO dX8_tick_99 h (fun x31 h => ?_)
      refine pw_iconst hO dX8_tick_100 (v := 1) (by decide) ?_
      refine pw_isub hO dX8_tick_101 ?_
      refine pw_iast hO dX8_tick_102 h (fun F32 h => ?_)
      refine pw_aload_n hO dX8_tick_103 1 rfl ?_
      refine pw_iconst hO dX8_tick_104 (v := 0) (by decide) ?_
      refine pw_aload_n hO dX8_tick_105 1 rfl ?_
      refine pw_iconst hO dX8_tick_106 (v := 1) (by decide) ?_
      refine pw_iald hO dX8_tick_107 h (fun x33 h => ?_)
      refine pw_if_ne (tgt := 115) hO dX8_tick_108 (by decide) h (fun c34 h => ?_) (fun c34 h => ?_)
      · refine pw_iconst hO dX8_tick_115 (v := 1) (by decide) ?_
        refine pw_sub (lv1 := [(1, .ref v1)]) [1] rfl ?_
        exact bl_X8_tick_b116 hX F32 v1 v1 0 1 h
      · refine pw_iconst hO dX8_tick_111 (v := 2) (by decide) ?_
        refine pw_goto (tgt := 116) hO dX8_tick_112 (by decide) ?_
        refine pw_sub (lv1 := [(1, .ref v1)]) [1] rfl ?_
        exact bl_X8_tick_b116 hX F32 v1 v1 0 2 h
  · refine pw_aload_n hO dX8_tick_49 1 rfl ?_
    refine pw_iconst hO dX8_tick_50 (v := 0) (by decide) ?_
    refine pw_S0 (as := [.ref v1, .int 0]) (st := []) (d := 1) hO [.int 0, .ref v1] dX8_tick_51 sl_X8_73 h (fun F1 hg n => ct_X8_sendOn hg) ⟨Nat.le_of_ble_eq_true rfl, Nat.le_of_ble_eq_true rfl⟩ ⟨Nat.zero_le _, Nat.zero_le _⟩ (Nat.le_of_ble_eq_true rfl) (fun _ _ => rfl) rfl (fun F37 h => ?_)
    refine pw_aload_n hO dX8_tick_54 1 rfl ?_
    refine pw_iconst hO dX8_tick_55 (v := 1) (by decide) ?_
    refine pw_S0 (as := [.ref v1, .int 1]) (st := []) (d := 1) hO [.int 1, .ref v1] dX8_tick_56 sl_X8_73 h (fun F1 hg n => ct_X8_sendOn hg) ⟨Nat.le_of_ble_eq_true rfl, Nat.le_of_ble_eq_true rfl⟩ ⟨Nat.zero_le _, Nat.zero_le _⟩ (Nat.le_of_ble_eq_true rfl) (fun _ _ => rfl) rfl (fun F39 h => ?_)
    refine pw_aload_n hO dX8_tick_59 1 rfl ?_
    refine pw_SI (as := [.ref v1]) (st := []) (d := 1) hO [.ref v1] dX8_tick_60 sl_X8_77 h (fun r F1 hg n => ct_X8_isEmpty hg) ⟨Nat.le_of_ble_eq_true rfl, Nat.le_of_ble_eq_true rfl⟩ ⟨Nat.zero_le _, Nat.zero_le _⟩ (Nat.le_of_ble_eq_true rfl) (fun _ _ => rfl) rfl (fun x42 F41 h => ?_)
    refine pw_if_eq (tgt := 193) hO dX8_tick_63 (by decide) h (fun c43 h => ?_) (fun c43 h => ?_)
    · exact pw_vret hO hX.2 dX8_tick_193 h
    · refine pw_aload_n hO dX8_tick_66 0 rfl ?_
      refine pw_getI hO dX8_tick_67 fl_X8_50 h (fun x44 h => ?_)
      refine pw_iconst hO dX8_tick_70 (v := 2) (by decide) ?_
      refine pw_SI (as := [.int x44, .int 2]) (st := []) (d := 0) hO [.int 2, .int x44] dX8_tick_71 sl_X8_69 h (fun r F1 hg n => ct_X8_has hg) ⟨Nat.le_of_ble_eq_true rfl, Nat.le_of_ble_eq_true rfl⟩ ⟨Nat.zero_le _, Nat.zero_le _⟩ (Nat.le_of_ble_eq_true rfl) (fun _ _ => rfl) rfl (fun x46 F45 h => ?_)
      refine pw_if_eq (tgt := 193) hO dX8_tick_74 (by decide) h (fun c47 h => ?_) (fun c47 h => ?_)
      · exact pw_vret hO hX.2 dX8_tick_193 h
      · refine pw_aload_n hO dX8_tick_77 1 rfl ?_
        refine pw_iconst hO dX8_tick_78 (v := 0) (by decide) ?_
        refine pw_iconst hO dX8_tick_79 (v := 1) (by decide) ?_
        refine pw_iast hO dX8_tick_80 h (fun F48 h => ?_)
        refine pw_aload_n hO dX8_tick_81 1 rfl ?_
        refine pw_iconst hO dX8_tick_82 (v := 1) (by decide) ?_
        refine pw_aload_n hO dX8_tick_83 1 rfl ?_
        refine pw_bipush hO dX8_tick_84 (v := 9) (by decide) ?_
        refine pw_iald hO dX8_tick_86 h (fun x49 h => ?_)
        refine pw_iast hO dX8_tick_87 h (fun F50 h => ?_)
        refine pw_goto (tgt := 193) hO dX8_tick_88 (by decide) ?_
        exact pw_vret hO hX.2 dX8_tick_193 h
def g_X8_tick (F : Hp) (a0 : Nat) (a1 : Nat) : Option Hp := ((aI F a1 0 0).bind fun x1 => ((aI F a1 0 4).bind fun x2 => (if x1 = 2 then ((aI F a1 0 2).bind fun x4 => ((aI F a1 0 10).bind fun x5 => (if x5 = 0 then none else (if (jrem (x4 + 1) x5) = 0 then g_X8_tick_b36 F a0 a1 x1 a1 4 x2 5 else g_X8_tick_b36 F a0 a1 x1 a1 4 x2 1)))) else g_X8_tick_b36 F a0 a1 x1 a1 4 x2 9)))
set_option maxHeartbeats 4000000 in
theorem bl_X8_tick {X : Cx} {F' : Hp} (hX : Md X cX8_tick RX8 3 (rmd 2) none false none F') (F : Hp) (a0 : Nat) (a1 : Nat) (h : g_X8_tick F a0 a1 = some F') : PW X 0 0 F 0 [(0, .ref a0), (1, .ref a1)] [] := by
  have hO := hX.1
  unfold g_X8_tick at h
  refine pw_aload_n hO dX8_tick_0 1 rfl ?_
  refine pw_iconst hO dX8_tick_1 (v := 0) (by decide) ?_
  refine pw_iald hO dX8_tick_2 h (fun x1 h => ?_)
  refine pw_istore_n hO [(2, .int x1), (0, .ref a0), (1, .ref a1)] dX8_tick_3 (by decide) rfl ?_
  refine pw_aload_n hO dX8_tick_4 2 rfl ?_
  refine pw_iconst hO dX8_tick_5 (v := 4) (by decide) ?_
  refine pw_dup2 hO dX8_tick_6 rfl rfl ?_
  refine pw_iald hO dX8_tick_7 h (fun x2 h => ?_)
  refine pw_iload_n hO dX8_tick_8 0 rfl ?_
  refine pw_iconst hO dX8_tick_9 (v := 2) (by decide) ?_
  refine pw_icmp_eq (tgt := 18) hO dX8_tick_10 (by decide) h (fun c3 h => ?_) (fun c3 h => ?_)
  · refine pw_aload_n hO dX8_tick_18 2 rfl ?_
    refine pw_iconst hO dX8_tick_19 (v := 2) (by decide) ?_
    refine pw_iald hO dX8_tick_20 h (fun x4 h => ?_)
    refine pw_iconst hO dX8_tick_21 (v := 1) (by decide) ?_
    refine pw_iadd hO dX8_tick_22 ?_
    refine pw_aload_n hO dX8_tick_23 2 rfl ?_
    refine pw_bipush hO dX8_tick_24 (v := 10) (by decide) ?_
    refine pw_iald hO dX8_tick_26 h (fun x5 h => ?_)
    refine pw_irem hO dX8_tick_27 h (fun h => ?_)
    refine pw_if_ne (tgt := 35) hO dX8_tick_28 (by decide) h (fun c6 h => ?_) (fun c6 h => ?_)
    · refine pw_iconst hO dX8_tick_35 (v := 1) (by decide) ?_
      refine pw_sub (lv1 := [(0, .ref a0), (1, .ref a1), (2, .int x1)]) [1, 2, 0] rfl ?_
      exact bl_X8_tick_b36 hX F a0 a1 x1 a1 4 x2 1 h
    · refine pw_iconst hO dX8_tick_31 (v := 5) (by decide) ?_
      refine pw_goto (tgt := 36) hO dX8_tick_32 (by decide) ?_
      refine pw_sub (lv1 := [(0, .ref a0), (1, .ref a1), (2, .int x1)]) [1, 2, 0] rfl ?_
      exact bl_X8_tick_b36 hX F a0 a1 x1 a1 4 x2 5 h
  · refine pw_bipush hO dX8_tick_13 (v := 9) (by decide) ?_
    refine pw_goto (tgt := 36) hO dX8_tick_15 (by decide) ?_
    refine pw_sub (lv1 := [(0, .ref a0), (1, .ref a1), (2, .int x1)]) [1, 2, 0] rfl ?_
    exact bl_X8_tick_b36 hX F a0 a1 x1 a1 4 x2 9 h
theorem ct_X8_tick {n : Nat} {F : Hp} {a0 : Nat} {a1 : Nat} {F' : Hp} (h : g_X8_tick F a0 a1 = some F') : CT yX8_tick cX8_tick 3 none (rmd 2) n F [.ref a0, .ref a1] none F' :=
  ct_intro (own := RX8) (nm := false) (by decide) rfl (fun h => by cases h) (Nat.le_of_ble_eq_true rfl) (fun X hn hX => bl_X8_tick hX F a0 a1 h)
def g_X8_isQuiet (F : Hp) (a0 : Nat) : Option (Int32 × Hp) := ((aI F a0 0 0).bind fun x1 => (if x1 = 2 then (bnd2 (g_X8_isEmpty F a0) fun x4 F3 => (if x4 = 0 then some (0, F3) else some (1, F3))) else some (0, F)))
set_option maxHeartbeats 4000000 in
theorem bl_X8_isQuiet {X : Cx} {rx : Int32} {F' : Hp} (hX : Md X cX8_isQuiet RX8 1 (rmd 2) (some FieldType.boolean) false (some (.int rx)) F') (F : Hp) (a0 : Nat) (h : g_X8_isQuiet F a0 = some (rx, F')) : PW X 0 0 F 0 [(0, .ref a0)] [] := by
  have hO := hX.1
  unfold g_X8_isQuiet at h
  refine pw_aload_n hO dX8_isQuiet_0 0 rfl ?_
  refine pw_iconst hO dX8_isQuiet_1 (v := 0) (by decide) ?_
  refine pw_iald hO dX8_isQuiet_2 h (fun x1 h => ?_)
  refine pw_iconst hO dX8_isQuiet_3 (v := 2) (by decide) ?_
  refine pw_icmp_ne (tgt := 18) hO dX8_isQuiet_4 (by decide) h (fun c2 h => ?_) (fun c2 h => ?_)
  · refine pw_iconst hO dX8_isQuiet_18 (v := 0) (by decide) ?_
    exact pw_zretc hO hX.2 dX8_isQuiet_19 (Or.inl rfl) h
  · refine pw_aload_n hO dX8_isQuiet_7 0 rfl ?_
    refine pw_SI (as := [.ref a0]) (st := []) (d := 1) hO [.ref a0] dX8_isQuiet_8 sl_X8_77 h (fun r F1 hg n => ct_X8_isEmpty hg) ⟨Nat.le_of_ble_eq_true rfl, Nat.le_of_ble_eq_true rfl⟩ ⟨Nat.zero_le _, Nat.zero_le _⟩ (Nat.le_of_ble_eq_true rfl) (fun _ _ => rfl) rfl (fun x4 F3 h => ?_)
    refine pw_if_eq (tgt := 18) hO dX8_isQuiet_11 (by decide) h (fun c5 h => ?_) (fun c5 h => ?_)
    · refine pw_iconst hO dX8_isQuiet_18 (v := 0) (by decide) ?_
      exact pw_zretc hO hX.2 dX8_isQuiet_19 (Or.inl rfl) h
    · refine pw_iconst hO dX8_isQuiet_14 (v := 1) (by decide) ?_
      refine pw_goto (tgt := 19) hO dX8_isQuiet_15 (by decide) ?_
      exact pw_zretc hO hX.2 dX8_isQuiet_19 (Or.inr rfl) h
theorem ct_X8_isQuiet {n : Nat} {F : Hp} {a0 : Nat} {rx : Int32} {F' : Hp} (h : g_X8_isQuiet F a0 = some (rx, F')) : CT yX8_isQuiet cX8_isQuiet 1 (some FieldType.boolean) (rmd 2) n F [.ref a0] (some (.int rx)) F' :=
  ct_intro (own := RX8) (nm := false) (by decide) rfl (fun h => by cases h) (Nat.le_of_ble_eq_true rfl) (fun X hn hX => bl_X8_isQuiet hX F a0 h)
def g_X8_quiet_b10 : Nat → Hp → Nat → Int32 → Option (Int32 × Hp)
  | 0, _, _, _ => none
  | n + 1, F, v0, v2 => (if 100 ≤ v2 then some ((-9), F) else ((gR F v0 8 11).bind fun q5 => (bnd2 (g_X8_isQuiet F q5) fun x7 F6 => (if x7 = 0 then ((gR F6 v0 8 11).bind fun q9 => (ckO F6 v0 8 ((g_X8_tick F6 v0 q9).bind fun F10 => g_X8_quiet_b10 n F10 v0 ((v2 + 1))))) else some (v2, F6)))))
set_option maxHeartbeats 4000000 in
theorem bl_X8_quiet_b10 {X : Cx} {rx : Int32} {F' : Hp} (hX : Md X cX8_quiet RX8 3 (rmd 3) (some FieldType.int) false (some (.int rx)) F') : ∀ (n : Nat) (F : Hp) (v0 : Nat) (v2 : Int32), g_X8_quiet_b10 n F v0 v2 = some (rx, F') → PW X 0 0 F 10 [(0, .ref v0), (2, .int v2)] [] := by
  have hO := hX.1
  intro n
  induction n with
  | zero => intro F v0 v2 h; rw [g_X8_quiet_b10] at h; cases h
  | succ n ih =>
    intro F v0 v2 h
    rw [g_X8_quiet_b10] at h
    refine pw_iload_n hO dX8_quiet_10 1 rfl ?_
    refine pw_bipush hO dX8_quiet_11 (v := 100) (by decide) ?_
    refine pw_icmp_ge (tgt := 42) hO dX8_quiet_13 (by decide) h (fun c4 h => ?_) (fun c4 h => ?_)
    · refine pw_bipush hO dX8_quiet_42 (v := (-9)) (by decide) ?_
      exact pw_iret hO hX.2 dX8_quiet_44 h
    · refine pw_aload_n hO dX8_quiet_16 0 rfl ?_
      refine pw_getR hO dX8_quiet_17 fl_X8_28 h (fun q5 h => ?_)
      refine pw_SI (as := [.ref q5]) (st := []) (d := 2) hO [.ref q5] dX8_quiet_20 sl_X8_93 h (fun r F1 hg n => ct_X8_isQuiet hg) ⟨Nat.le_of_ble_eq_true rfl, Nat.le_of_ble_eq_true rfl⟩ ⟨Nat.zero_le _, Nat.zero_le _⟩ (Nat.le_of_ble_eq_true rfl) (fun _ _ => rfl) rfl (fun x7 F6 h => ?_)
      refine pw_if_eq (tgt := 28) hO dX8_quiet_23 (by decide) h (fun c8 h => ?_) (fun c8 h => ?_)
      · refine pw_aload_n hO dX8_quiet_28 0 rfl ?_
        refine pw_aload_n hO dX8_quiet_29 0 rfl ?_
        refine pw_getR hO dX8_quiet_30 fl_X8_28 h (fun q9 h => ?_)
        refine pw_V0 (a := v0) (ci := 8) (as := [.ref q9]) (st := []) (d := 2) hO [.ref q9, .ref v0] dX8_quiet_33 vl_X8_96 h (fun F1 hg n => ct_X8_tick hg) ⟨Nat.le_of_ble_eq_true rfl, Nat.le_of_ble_eq_true rfl⟩ ⟨Nat.zero_le _, Nat.zero_le _⟩ (Nat.le_of_ble_eq_true rfl) (fun _ _ => rfl) rfl (fun F10 h => ?_)
        refine pw_iinc hO [(2, .int (v2 + 1)), (0, .ref v0)] dX8_quiet_36 1 rfl rfl (by decide) rfl ?_
        refine pw_goto (tgt := 10) hO dX8_quiet_39 (by decide) ?_
        refine pw_sub (lv1 := [(0, .ref v0), (2, .int (v2 + 1))]) [1, 0] rfl ?_
        exact ih F10 v0 ((v2 + 1)) h
      · refine pw_iload_n hO dX8_quiet_26 1 rfl ?_
        exact pw_iret hO hX.2 dX8_quiet_27 h
def g_X8_quiet (F : Hp) (a0 : Nat) (a1 : Nat) : Option (Int32 × Hp) := ((gR F a0 8 11).bind fun q1 => ((g_X8_lay F a1 q1).bind fun F2 => g_X8_quiet_b10 gF F2 a0 0))
set_option maxHeartbeats 4000000 in
theorem bl_X8_quiet {X : Cx} {rx : Int32} {F' : Hp} (hX : Md X cX8_quiet RX8 3 (rmd 3) (some FieldType.int) false (some (.int rx)) F') (F : Hp) (a0 : Nat) (a1 : Nat) (h : g_X8_quiet F a0 a1 = some (rx, F')) : PW X 0 0 F 0 [(0, .ref a0), (1, .ref a1)] [] := by
  have hO := hX.1
  unfold g_X8_quiet at h
  refine pw_aload_n hO dX8_quiet_0 1 rfl ?_
  refine pw_aload_n hO dX8_quiet_1 0 rfl ?_
  refine pw_getR hO dX8_quiet_2 fl_X8_28 h (fun q1 h => ?_)
  refine pw_S0 (as := [.ref a1, .ref q1]) (st := []) (d := 0) hO [.ref q1, .ref a1] dX8_quiet_5 sl_X8_89 h (fun F1 hg n => ct_X8_lay hg) ⟨Nat.le_of_ble_eq_true rfl, Nat.le_of_ble_eq_true rfl⟩ ⟨Nat.zero_le _, Nat.zero_le _⟩ (Nat.le_of_ble_eq_true rfl) (fun _ _ => rfl) rfl (fun F2 h => ?_)
  refine pw_iconst hO dX8_quiet_8 (v := 0) (by decide) ?_
  refine pw_istore_n hO [(2, .int 0), (0, .ref a0), (1, .ref a1)] dX8_quiet_9 (by decide) rfl ?_
  refine pw_sub (lv1 := [(0, .ref a0), (2, .int 0)]) [1, 0] rfl ?_
  exact bl_X8_quiet_b10 hX gF F2 a0 0 h
theorem ct_X8_quiet {n : Nat} {F : Hp} {a0 : Nat} {a1 : Nat} {rx : Int32} {F' : Hp} (h : g_X8_quiet F a0 a1 = some (rx, F')) : CT yX8_quiet cX8_quiet 3 (some FieldType.int) (rmd 3) n F [.ref a0, .ref a1] (some (.int rx)) F' :=
  ct_intro (own := RX8) (nm := false) (by decide) rfl (fun h => by cases h) (Nat.le_of_ble_eq_true rfl) (fun X hn hX => bl_X8_quiet hX F a0 a1 h)
def g_X8_write (F : Hp) (a0 : Nat) (a1 : Int32) : Option (Int32 × Hp) := ((pV F a0 8 0 (.int 0)).bind fun F1 => (bnd2 (g_X8_in F1 (Int32.toInt64 a1) (0 : Int64) (255 : Int64)) fun x3 F2 => (if x3 = 0 then some ((-2), F2) else ((gI F2 a0 8 2).bind fun x5 => (if x5 = 80 then some ((-4), F2) else ((gR F2 a0 8 1).bind fun q7 => ((gI F2 a0 8 2).bind fun x8 => ((sI F2 q7 0 x8 a1).bind fun F9 => ((gI F9 a0 8 2).bind fun x10 => ((pV F9 a0 8 2 (.int (x10 + 1))).bind fun F11 => ((gI F11 a0 8 2).bind fun x12 => some (x12, F11))))))))))))
set_option maxHeartbeats 4000000 in
theorem bl_X8_write {X : Cx} {rx : Int32} {F' : Hp} (hX : Md X cX8_write RX8 2 (rmd 1) (some FieldType.int) false (some (.int rx)) F') (F : Hp) (a0 : Nat) (a1 : Int32) (h : g_X8_write F a0 a1 = some (rx, F')) : PW X 0 0 F 0 [(0, .ref a0), (1, .int a1)] [] := by
  have hO := hX.1
  unfold g_X8_write at h
  refine pw_aload_n hO dX8_write_0 0 rfl ?_
  refine pw_iconst hO dX8_write_1 (v := 0) (by decide) ?_
  refine pw_putI hO dX8_write_2 fp_X8_58 h (fun F1 h => ?_)
  refine pw_iload_n hO dX8_write_5 1 rfl ?_
  refine pw_i2l hO dX8_write_6 ?_
  refine pw_lconst hO dX8_write_7 (v := (0 : Int64)) (by decide) ?_
  refine pw_ldc2 hO dX8_write_8 kl_X8_99 ?_
  refine pw_SI (as := [.long (Int32.toInt64 a1), .long (0 : Int64), .long (255 : Int64)]) (st := []) (d := 0) hO [.long (255 : Int64), .long (0 : Int64), .long (Int32.toInt64 a1)] dX8_write_11 sl_X8_61 h (fun r F1 hg n => ct_X8_in hg) ⟨Nat.le_of_ble_eq_true rfl, Nat.le_of_ble_eq_true rfl⟩ ⟨Nat.zero_le _, Nat.zero_le _⟩ (Nat.le_of_ble_eq_true rfl) (fun _ _ => rfl) rfl (fun x3 F2 h => ?_)
  refine pw_if_ne (tgt := 20) hO dX8_write_14 (by decide) h (fun c4 h => ?_) (fun c4 h => ?_)
  · refine pw_aload_n hO dX8_write_20 0 rfl ?_
    refine pw_getI hO dX8_write_21 fl_X8_101 h (fun x5 h => ?_)
    refine pw_bipush hO dX8_write_24 (v := 80) (by decide) ?_
    refine pw_icmp_ne (tgt := 32) hO dX8_write_26 (by decide) h (fun c6 h => ?_) (fun c6 h => ?_)
    · refine pw_aload_n hO dX8_write_32 0 rfl ?_
      refine pw_getR hO dX8_write_33 fl_X8_7 h (fun q7 h => ?_)
      refine pw_aload_n hO dX8_write_36 0 rfl ?_
      refine pw_getI hO dX8_write_37 fl_X8_101 h (fun x8 h => ?_)
      refine pw_iload_n hO dX8_write_40 1 rfl ?_
      refine pw_iast hO dX8_write_41 h (fun F9 h => ?_)
      refine pw_aload_n hO dX8_write_42 0 rfl ?_
      refine pw_dup hO dX8_write_43 rfl ?_
      refine pw_getI hO dX8_write_44 fl_X8_101 h (fun x10 h => ?_)
      refine pw_iconst hO dX8_write_47 (v := 1) (by decide) ?_
      refine pw_iadd hO dX8_write_48 ?_
      refine pw_putI hO dX8_write_49 fp_X8_101 h (fun F11 h => ?_)
      refine pw_aload_n hO dX8_write_52 0 rfl ?_
      refine pw_getI hO dX8_write_53 fl_X8_101 h (fun x12 h => ?_)
      exact pw_iret hO hX.2 dX8_write_56 h
    · refine pw_bipush hO dX8_write_29 (v := (-4)) (by decide) ?_
      exact pw_iret hO hX.2 dX8_write_31 h
  · refine pw_bipush hO dX8_write_17 (v := (-2)) (by decide) ?_
    exact pw_iret hO hX.2 dX8_write_19 h
theorem ct_X8_write {n : Nat} {F : Hp} {a0 : Nat} {a1 : Int32} {rx : Int32} {F' : Hp} (h : g_X8_write F a0 a1 = some (rx, F')) : CT yX8_write cX8_write 2 (some FieldType.int) (rmd 1) n F [.ref a0, .int a1] (some (.int rx)) F' :=
  ct_intro (own := RX8) (nm := false) (by decide) rfl (fun h => by cases h) (Nat.le_of_ble_eq_true rfl) (fun X hn hX => bl_X8_write hX F a0 a1 h)
def g_X8_wipe (F : Hp) (a0 : Nat) : Option (Int32 × Hp) := ((pV F a0 8 0 (.int 0)).bind fun F1 => ((gI F1 a0 8 2).bind fun x2 => ((pV F1 a0 8 2 (.int 0)).bind fun F3 => some (x2, F3))))
set_option maxHeartbeats 4000000 in
theorem bl_X8_wipe {X : Cx} {rx : Int32} {F' : Hp} (hX : Md X cX8_wipe RX8 2 (rmd 0) (some FieldType.int) false (some (.int rx)) F') (F : Hp) (a0 : Nat) (h : g_X8_wipe F a0 = some (rx, F')) : PW X 0 0 F 0 [(0, .ref a0)] [] := by
  have hO := hX.1
  unfold g_X8_wipe at h
  refine pw_aload_n hO dX8_wipe_0 0 rfl ?_
  refine pw_iconst hO dX8_wipe_1 (v := 0) (by decide) ?_
  refine pw_putI hO dX8_wipe_2 fp_X8_58 h (fun F1 h => ?_)
  refine pw_aload_n hO dX8_wipe_5 0 rfl ?_
  refine pw_getI hO dX8_wipe_6 fl_X8_101 h (fun x2 h => ?_)
  refine pw_istore_n hO [(1, .int x2), (0, .ref a0)] dX8_wipe_9 (by decide) rfl ?_
  refine pw_aload_n hO dX8_wipe_10 1 rfl ?_
  refine pw_iconst hO dX8_wipe_11 (v := 0) (by decide) ?_
  refine pw_putI hO dX8_wipe_12 fp_X8_101 h (fun F3 h => ?_)
  refine pw_iload_n hO dX8_wipe_15 0 rfl ?_
  exact pw_iret hO hX.2 dX8_wipe_16 h
theorem ct_X8_wipe {n : Nat} {F : Hp} {a0 : Nat} {rx : Int32} {F' : Hp} (h : g_X8_wipe F a0 = some (rx, F')) : CT yX8_wipe cX8_wipe 2 (some FieldType.int) (rmd 0) n F [.ref a0] (some (.int rx)) F' :=
  ct_intro (own := RX8) (nm := false) (by decide) rfl (fun h => by cases h) (Nat.le_of_ble_eq_true rfl) (fun X hn hX => bl_X8_wipe hX F a0 h)
def g_X8_figure_b28 (F : Hp) (v0 : Nat) (v1 : Int32) (s0 : Int32) : Option (Int32 × Hp) := (bnd2 (g_X8_in F (Int32.toInt64 s0) (Int32.toInt64 v1) (9 : Int64)) fun x5 F4 => (if x5 = 0 then some ((-9), F4) else ((gI F4 v0 8 3).bind fun x7 => ((pV F4 v0 8 3 (.int (x7 + 1))).bind fun F8 => some (s0, F8)))))
set_option maxHeartbeats 4000000 in
theorem bl_X8_figure_b28 {X : Cx} {rx : Int32} {F' : Hp} (hX : Md X cX8_figure RX8 3 (rmd 1) (some FieldType.int) false (some (.int rx)) F') (F : Hp) (v0 : Nat) (v1 : Int32) (s0 : Int32) (h : g_X8_figure_b28 F v0 v1 s0 = some (rx, F')) : PW X 0 0 F 28 [(0, .ref v0), (1, .int v1)] [.int s0] := by
  have hO := hX.1
  unfold g_X8_figure_b28 at h
  refine pw_istore_n hO [(2, .int s0), (0, .ref v0), (1, .int v1)] dX8_figure_28 (by decide) rfl ?_
  refine pw_iload_n hO dX8_figure_29 0 rfl ?_
  refine pw_i2l hO dX8_figure_30 ?_
  refine pw_iload_n hO dX8_figure_31 2 rfl ?_
  refine pw_i2l hO dX8_figure_32 ?_
  refine pw_ldc2 hO dX8_figure_33 kl_X8_107 ?_
  refine pw_SI (as := [.long (Int32.toInt64 s0), .long (Int32.toInt64 v1), .long (9 : Int64)]) (st := []) (d := 0) hO [.long (9 : Int64), .long (Int32.toInt64 v1), .long (Int32.toInt64 s0)] dX8_figure_36 sl_X8_61 h (fun r F1 hg n => ct_X8_in hg) ⟨Nat.le_of_ble_eq_true rfl, Nat.le_of_ble_eq_true rfl⟩ ⟨Nat.zero_le _, Nat.zero_le _⟩ (Nat.le_of_ble_eq_true rfl) (fun _ _ => rfl) rfl (fun x5 F4 h => ?_)
  refine pw_if_ne (tgt := 45) hO dX8_figure_39 (by decide) h (fun c6 h => ?_) (fun c6 h => ?_)
  · refine pw_aload_n hO dX8_figure_45 1 rfl ?_
    refine pw_dup hO dX8_figure_46 rfl ?_
    refine pw_getI hO dX8_figure_47 fl_X8_104 h (fun x7 h => ?_)
    refine pw_iconst hO dX8_figure_50 (v := 1) (by decide) ?_
    refine pw_iadd hO dX8_figure_51 ?_
    refine pw_putI hO dX8_figure_52 fp_X8_104 h (fun F8 h => ?_)
    refine pw_iload_n hO dX8_figure_55 0 rfl ?_
    exact pw_iret hO hX.2 dX8_figure_56 h
  · refine pw_bipush hO dX8_figure_42 (v := (-9)) (by decide) ?_
    exact pw_iret hO hX.2 dX8_figure_44 h
def g_X8_figure (F : Hp) (a0 : Nat) (a1 : Int32) : Option (Int32 × Hp) := ((gI F a0 8 3).bind fun x1 => ((gI F a0 8 2).bind fun x2 => (if x2 ≤ x1 then g_X8_figure_b28 F a0 a1 (-9) else ((gR F a0 8 1).bind fun q9 => ((gI F a0 8 3).bind fun x10 => ((aI F q9 0 x10).bind fun x11 => g_X8_figure_b28 F a0 a1 ((x11 - 48))))))))
set_option maxHeartbeats 4000000 in
theorem bl_X8_figure {X : Cx} {rx : Int32} {F' : Hp} (hX : Md X cX8_figure RX8 3 (rmd 1) (some FieldType.int) false (some (.int rx)) F') (F : Hp) (a0 : Nat) (a1 : Int32) (h : g_X8_figure F a0 a1 = some (rx, F')) : PW X 0 0 F 0 [(0, .ref a0), (1, .int a1)] [] := by
  have hO := hX.1
  unfold g_X8_figure at h
  refine pw_aload_n hO dX8_figure_0 0 rfl ?_
  refine pw_getI hO dX8_figure_1 fl_X8_104 h (fun x1 h => ?_)
  refine pw_aload_n hO dX8_figure_4 0 rfl ?_
  refine pw_getI hO dX8_figure_5 fl_X8_101 h (fun x2 h => ?_)
  refine pw_icmp_ge (tgt := 26) hO dX8_figure_8 (by decide) h (fun c3 h => ?_) (fun c3 h => ?_)
  · refine pw_bipush hO dX8_figure_26 (v := (-9)) (by decide) ?_
    refine pw_sub (lv1 := [(0, .ref a0), (1, .int a1)]) [0, 1] rfl ?_
    exact bl_X8_figure_b28 hX F a0 a1 (-9) h
  · refine pw_aload_n hO dX8_figure_11 0 rfl ?_
    refine pw_getR hO dX8_figure_12 fl_X8_7 h (fun q9 h => ?_)
    refine pw_aload_n hO dX8_figure_15 0 rfl ?_
    refine pw_getI hO dX8_figure_16 fl_X8_104 h (fun x10 h => ?_)
    refine pw_iald hO dX8_figure_19 h (fun x11 h => ?_)
    refine pw_bipush hO dX8_figure_20 (v := 48) (by decide) ?_
    refine pw_isub hO dX8_figure_22 ?_
    refine pw_goto (tgt := 28) hO dX8_figure_23 (by decide) ?_
    refine pw_sub (lv1 := [(0, .ref a0), (1, .int a1)]) [0, 1] rfl ?_
    exact bl_X8_figure_b28 hX F a0 a1 ((x11 - 48)) h
theorem ct_X8_figure {n : Nat} {F : Hp} {a0 : Nat} {a1 : Int32} {rx : Int32} {F' : Hp} (h : g_X8_figure F a0 a1 = some (rx, F')) : CT yX8_figure cX8_figure 3 (some FieldType.int) (rmd 1) n F [.ref a0, .int a1] (some (.int rx)) F' :=
  ct_intro (own := RX8) (nm := false) (by decide) rfl (fun h => by cases h) (Nat.le_of_ble_eq_true rfl) (fun X hn hX => bl_X8_figure hX F a0 a1 h)
def g_X8_readLink_b254 (rec154 : Hp → Nat → Option (Int32 × Hp)) (F : Hp) (v0 : Nat) (v1 : Int32) : Option (Int32 × Hp) := ((gR F v0 8 5).bind fun q44 => ((gI F v0 8 6).bind fun x45 => ((sI F q44 0 x45 v1).bind fun F46 => ((gI F46 v0 8 6).bind fun x47 => ((pV F46 v0 8 6 (.int (x47 + 1))).bind fun F48 => ((gI F48 v0 8 3).bind fun x49 => ((pV F48 v0 8 3 (.int (x49 + 1))).bind fun F50 => rec154 F50 v0)))))))
set_option maxHeartbeats 4000000 in
theorem bl_X8_readLink_b254 {X : Cx} {rx : Int32} {F' : Hp} (hX : Md X cX8_readLink RX8 3 (rmd 2) (some FieldType.int) false (some (.int rx)) F') (rec154 : Hp → Nat → Option (Int32 × Hp)) (hrec154 : ∀ (F : Hp) (v0 : Nat), rec154 F v0 = some (rx, F') → PW X 0 0 F 154 [(0, .ref v0)] []) (F : Hp) (v0 : Nat) (v1 : Int32) (h : g_X8_readLink_b254 rec154 F v0 v1 = some (rx, F')) : PW X 0 0 F 254 [(0, .ref v0), (1, .int v1)] [] := by
  have hO := hX.1
  unfold g_X8_readLink_b254 at h
  refine pw_aload_n hO dX8_readLink_254 0 rfl ?_
  refine pw_getR hO dX8_readLink_255 fl_X8_16 h (fun q44 h => ?_)
  refine pw_aload_n hO dX8_readLink_258 0 rfl ?_
  refine pw_getI hO dX8_readLink_259 fl_X8_109 h (fun x45 h => ?_)
  refine pw_iload_n hO dX8_readLink_262 1 rfl ?_
  refine pw_iast hO dX8_readLink_263 h (fun F46 h => ?_)
  refine pw_aload_n hO dX8_readLink_264 0 rfl ?_
  refine pw_dup hO dX8_readLink_265 rfl ?_
  refine pw_getI hO dX8_readLink_266 fl_X8_109 h (fun x47 h => ?_)
  refine pw_iconst hO dX8_readLink_269 (v := 1) (by decide) ?_
  refine pw_iadd hO dX8_readLink_270 ?_
  refine pw_putI hO dX8_readLink_271 fp_X8_109 h (fun F48 h => ?_)
  refine pw_aload_n hO dX8_readLink_274 0 rfl ?_
  refine pw_dup hO dX8_readLink_275 rfl ?_
  refine pw_getI hO dX8_readLink_276 fl_X8_104 h (fun x49 h => ?_)
  refine pw_iconst hO dX8_readLink_279 (v := 1) (by decide) ?_
  refine pw_iadd hO dX8_readLink_280 ?_
  refine pw_putI hO dX8_readLink_281 fp_X8_104 h (fun F50 h => ?_)
  refine pw_goto (tgt := 154) hO dX8_readLink_284 (by decide) ?_
  refine pw_sub (lv1 := [(0, .ref v0)]) [0] rfl ?_
  exact hrec154 F50 v0 h
def g_X8_readLink_b214 (rec154 : Hp → Nat → Option (Int32 × Hp)) (F : Hp) (v0 : Nat) (s0 : Int32) : Option (Int32 × Hp) := (bnd2 (g_X8_in F (Int32.toInt64 s0) (1 : Int64) (9 : Int64)) fun x42 F41 => (if x42 = 0 then ((gR F41 v0 8 1).bind fun q51 => ((gI F41 v0 8 3).bind fun x52 => ((aI F41 q51 0 x52).bind fun x53 => (bnd2 (g_X8_in F41 (Int32.toInt64 x53) (97 : Int64) (98 : Int64)) fun x55 F54 => (if x55 = 0 then ((gI F54 v0 8 3).bind fun x57 => some (x57, F54)) else g_X8_readLink_b254 rec154 F54 v0 s0))))) else g_X8_readLink_b254 rec154 F41 v0 s0))
set_option maxHeartbeats 4000000 in
theorem bl_X8_readLink_b214 {X : Cx} {rx : Int32} {F' : Hp} (hX : Md X cX8_readLink RX8 3 (rmd 2) (some FieldType.int) false (some (.int rx)) F') (rec154 : Hp → Nat → Option (Int32 × Hp)) (hrec154 : ∀ (F : Hp) (v0 : Nat), rec154 F v0 = some (rx, F') → PW X 0 0 F 154 [(0, .ref v0)] []) (F : Hp) (v0 : Nat) (s0 : Int32) (h : g_X8_readLink_b214 rec154 F v0 s0 = some (rx, F')) : PW X 0 0 F 214 [(0, .ref v0)] [.int s0] := by
  have hO := hX.1
  unfold g_X8_readLink_b214 at h
  refine pw_istore_n hO [(1, .int s0), (0, .ref v0)] dX8_readLink_214 (by decide) rfl ?_
  refine pw_iload_n hO dX8_readLink_215 0 rfl ?_
  refine pw_i2l hO dX8_readLink_216 ?_
  refine pw_lconst hO dX8_readLink_217 (v := (1 : Int64)) (by decide) ?_
  refine pw_ldc2 hO dX8_readLink_218 kl_X8_107 ?_
  refine pw_SI (as := [.long (Int32.toInt64 s0), .long (1 : Int64), .long (9 : Int64)]) (st := []) (d := 0) hO [.long (9 : Int64), .long (1 : Int64), .long (Int32.toInt64 s0)] dX8_readLink_221 sl_X8_61 h (fun r F1 hg n => ct_X8_in hg) ⟨Nat.le_of_ble_eq_true rfl, Nat.le_of_ble_eq_true rfl⟩ ⟨Nat.zero_le _, Nat.zero_le _⟩ (Nat.le_of_ble_eq_true rfl) (fun _ _ => rfl) rfl (fun x42 F41 h => ?_)
  refine pw_if_ne (tgt := 254) hO dX8_readLink_224 (by decide) h (fun c43 h => ?_) (fun c43 h => ?_)
  · refine pw_sub (lv1 := [(0, .ref v0), (1, .int s0)]) [1, 0] rfl ?_
    exact bl_X8_readLink_b254 hX rec154 hrec154 F41 v0 s0 h
  · refine pw_aload_n hO dX8_readLink_227 1 rfl ?_
    refine pw_getR hO dX8_readLink_228 fl_X8_7 h (fun q51 h => ?_)
    refine pw_aload_n hO dX8_readLink_231 1 rfl ?_
    refine pw_getI hO dX8_readLink_232 fl_X8_104 h (fun x52 h => ?_)
    refine pw_iald hO dX8_readLink_235 h (fun x53 h => ?_)
    refine pw_i2l hO dX8_readLink_236 ?_
    refine pw_ldc2 hO dX8_readLink_237 kl_X8_115 ?_
    refine pw_ldc2 hO dX8_readLink_240 kl_X8_117 ?_
    refine pw_SI (as := [.long (Int32.toInt64 x53), .long (97 : Int64), .long (98 : Int64)]) (st := []) (d := 0) hO [.long (98 : Int64), .long (97 : Int64), .long (Int32.toInt64 x53)] dX8_readLink_243 sl_X8_61 h (fun r F1 hg n => ct_X8_in hg) ⟨Nat.le_of_ble_eq_true rfl, Nat.le_of_ble_eq_true rfl⟩ ⟨Nat.zero_le _, Nat.zero_le _⟩ (Nat.le_of_ble_eq_true rfl) (fun _ _ => rfl) rfl (fun x55 F54 h => ?_)
    refine pw_if_ne (tgt := 254) hO dX8_readLink_246 (by decide) h (fun c56 h => ?_) (fun c56 h => ?_)
    · refine pw_sub (lv1 := [(0, .ref v0), (1, .int s0)]) [1, 0] rfl ?_
      exact bl_X8_readLink_b254 hX rec154 hrec154 F54 v0 s0 h
    · refine pw_aload_n hO dX8_readLink_249 1 rfl ?_
      refine pw_getI hO dX8_readLink_250 fl_X8_104 h (fun x57 h => ?_)
      exact pw_iret hO hX.2 dX8_readLink_253 h
def g_X8_readLink_b154 : Nat → Hp → Nat → Option (Int32 × Hp)
  | 0, _, _ => none
  | n + 1, F, v0 => ((gI F v0 8 3).bind fun x29 => ((gI F v0 8 2).bind fun x30 => (if x30 ≤ x29 then some ((-9), F) else ((gR F v0 8 1).bind fun q32 => ((gI F v0 8 3).bind fun x33 => ((aI F q32 0 x33).bind fun x34 => (bnd2 (g_X8_in F (Int32.toInt64 x34) (97 : Int64) (98 : Int64)) fun x36 F35 => (if x36 = 0 then ((gR F35 v0 8 1).bind fun q38 => ((gI F35 v0 8 3).bind fun x39 => ((aI F35 q38 0 x39).bind fun x40 => g_X8_readLink_b214 (g_X8_readLink_b154 n) F35 v0 ((x40 - 48))))) else ((gR F35 v0 8 1).bind fun q58 => ((gI F35 v0 8 3).bind fun x59 => ((aI F35 q58 0 x59).bind fun x60 => g_X8_readLink_b214 (g_X8_readLink_b154 n) F35 v0 ((x60 - 87)))))))))))))
set_option maxHeartbeats 4000000 in
theorem bl_X8_readLink_b154 {X : Cx} {rx : Int32} {F' : Hp} (hX : Md X cX8_readLink RX8 3 (rmd 2) (some FieldType.int) false (some (.int rx)) F') : ∀ (n : Nat) (F : Hp) (v0 : Nat), g_X8_readLink_b154 n F v0 = some (rx, F') → PW X 0 0 F 154 [(0, .ref v0)] [] := by
  have hO := hX.1
  intro n
  induction n with
  | zero => intro F v0 h; rw [g_X8_readLink_b154] at h; cases h
  | succ n ih =>
    intro F v0 h
    rw [g_X8_readLink_b154] at h
    refine pw_aload_n hO dX8_readLink_154 0 rfl ?_
    refine pw_getI hO dX8_readLink_155 fl_X8_104 h (fun x29 h => ?_)
    refine pw_aload_n hO dX8_readLink_158 0 rfl ?_
    refine pw_getI hO dX8_readLink_159 fl_X8_101 h (fun x30 h => ?_)
    refine pw_icmp_ge (tgt := 287) hO dX8_readLink_162 (by decide) h (fun c31 h => ?_) (fun c31 h => ?_)
    · refine pw_bipush hO dX8_readLink_287 (v := (-9)) (by decide) ?_
      exact pw_iret hO hX.2 dX8_readLink_289 h
    · refine pw_aload_n hO dX8_readLink_165 0 rfl ?_
      refine pw_getR hO dX8_readLink_166 fl_X8_7 h (fun q32 h => ?_)
      refine pw_aload_n hO dX8_readLink_169 0 rfl ?_
      refine pw_getI hO dX8_readLink_170 fl_X8_104 h (fun x33 h => ?_)
      refine pw_iald hO dX8_readLink_173 h (fun x34 h => ?_)
      refine pw_i2l hO dX8_readLink_174 ?_
      refine pw_ldc2 hO dX8_readLink_175 kl_X8_115 ?_
      refine pw_ldc2 hO dX8_readLink_178 kl_X8_117 ?_
      refine pw_SI (as := [.long (Int32.toInt64 x34), .long (97 : Int64), .long (98 : Int64)]) (st := []) (d := 0) hO [.long (98 : Int64), .long (97 : Int64), .long (Int32.toInt64 x34)] dX8_readLink_181 sl_X8_61 h (fun r F1 hg n => ct_X8_in hg) ⟨Nat.le_of_ble_eq_true rfl, Nat.le_of_ble_eq_true rfl⟩ ⟨Nat.zero_le _, Nat.zero_le _⟩ (Nat.le_of_ble_eq_true rfl) (fun _ _ => rfl) rfl (fun x36 F35 h => ?_)
      refine pw_if_eq (tgt := 202) hO dX8_readLink_184 (by decide) h (fun c37 h => ?_) (fun c37 h => ?_)
      · refine pw_aload_n hO dX8_readLink_202 0 rfl ?_
        refine pw_getR hO dX8_readLink_203 fl_X8_7 h (fun q38 h => ?_)
        refine pw_aload_n hO dX8_readLink_206 0 rfl ?_
        refine pw_getI hO dX8_readLink_207 fl_X8_104 h (fun x39 h => ?_)
        refine pw_iald hO dX8_readLink_210 h (fun x40 h => ?_)
        refine pw_bipush hO dX8_readLink_211 (v := 48) (by decide) ?_
        refine pw_isub hO dX8_readLink_213 ?_
        refine pw_sub (lv1 := [(0, .ref v0)]) [0] rfl ?_
        exact bl_X8_readLink_b214 hX (g_X8_readLink_b154 n) ih F35 v0 ((x40 - 48)) h
      · refine pw_aload_n hO dX8_readLink_187 0 rfl ?_
        refine pw_getR hO dX8_readLink_188 fl_X8_7 h (fun q58 h => ?_)
        refine pw_aload_n hO dX8_readLink_191 0 rfl ?_
        refine pw_getI hO dX8_readLink_192 fl_X8_104 h (fun x59 h => ?_)
        refine pw_iald hO dX8_readLink_195 h (fun x60 h => ?_)
        refine pw_bipush hO dX8_readLink_196 (v := 87) (by decide) ?_
        refine pw_isub hO dX8_readLink_198 ?_
        refine pw_goto (tgt := 214) hO dX8_readLink_199 (by decide) ?_
        refine pw_sub (lv1 := [(0, .ref v0)]) [0] rfl ?_
        exact bl_X8_readLink_b214 hX (g_X8_readLink_b154 n) ih F35 v0 ((x60 - 87)) h
def g_X8_readLink_b106 (rec44 : Hp → Nat → Int32 → Option (Int32 × Hp)) (F : Hp) (v0 : Nat) (v1 : Int32) (v2 : Int32) (s0 : Nat) (s1 : Int32) : Option (Int32 × Hp) := ((sI F s0 0 s1 v2).bind fun F69 => rec44 F69 v0 ((v1 + 1)))
set_option maxHeartbeats 4000000 in
theorem bl_X8_readLink_b106 {X : Cx} {rx : Int32} {F' : Hp} (hX : Md X cX8_readLink RX8 3 (rmd 2) (some FieldType.int) false (some (.int rx)) F') (rec44 : Hp → Nat → Int32 → Option (Int32 × Hp)) (hrec44 : ∀ (F : Hp) (v0 : Nat) (v1 : Int32), rec44 F v0 v1 = some (rx, F') → PW X 0 0 F 44 [(0, .ref v0), (1, .int v1)] []) (F : Hp) (v0 : Nat) (v1 : Int32) (v2 : Int32) (s0 : Nat) (s1 : Int32) (h : g_X8_readLink_b106 rec44 F v0 v1 v2 s0 s1 = some (rx, F')) : PW X 0 0 F 106 [(0, .ref v0), (1, .int v1), (2, .int v2)] [.int s1, .ref s0] := by
  have hO := hX.1
  unfold g_X8_readLink_b106 at h
  refine pw_iload_n hO dX8_readLink_106 2 rfl ?_
  refine pw_iast hO dX8_readLink_107 h (fun F69 h => ?_)
  refine pw_iinc hO [(1, .int (v1 + 1)), (0, .ref v0), (2, .int v2)] dX8_readLink_108 1 rfl rfl (by decide) rfl ?_
  refine pw_goto (tgt := 44) hO dX8_readLink_111 (by decide) ?_
  refine pw_sub (lv1 := [(0, .ref v0), (1, .int (v1 + 1))]) [1, 0] rfl ?_
  exact hrec44 F69 v0 ((v1 + 1)) h
def g_X8_readLink_b61 (rec44 : Hp → Nat → Int32 → Option (Int32 × Hp)) (F : Hp) (v0 : Nat) (v1 : Int32) (s0 : Nat) (s1 : Int32) : Option (Int32 × Hp) := (ckO F s0 8 (bnd2 (g_X8_figure F s0 s1) fun x63 F62 => (if x63 = (-9) then ((gI F62 v0 8 3).bind fun x70 => some (x70, F62)) else ((gR F62 v0 8 4).bind fun q65 => (if 2 ≤ v1 then (bnd2 (g_X8_at F62 ((v1 - 2) / 3)) fun x68 F67 => g_X8_readLink_b106 rec44 F67 v0 v1 x63 q65 ((x68 + (jrem (v1 - 2) 3)))) else g_X8_readLink_b106 rec44 F62 v0 v1 x63 q65 ((9 + v1)))))))
set_option maxHeartbeats 4000000 in
theorem bl_X8_readLink_b61 {X : Cx} {rx : Int32} {F' : Hp} (hX : Md X cX8_readLink RX8 3 (rmd 2) (some FieldType.int) false (some (.int rx)) F') (rec44 : Hp → Nat → Int32 → Option (Int32 × Hp)) (hrec44 : ∀ (F : Hp) (v0 : Nat) (v1 : Int32), rec44 F v0 v1 = some (rx, F') → PW X 0 0 F 44 [(0, .ref v0), (1, .int v1)] []) (F : Hp) (v0 : Nat) (v1 : Int32) (s0 : Nat) (s1 : Int32) (h : g_X8_readLink_b61 rec44 F v0 v1 s0 s1 = some (rx, F')) : PW X 0 0 F 61 [(0, .ref v0), (1, .int v1)] [.int s1, .ref s0] := by
  have hO := hX.1
  unfold g_X8_readLink_b61 at h
  refine pw_VI (a := s0) (ci := 8) (as := [.int s1]) (st := []) (d := 1) hO [.int s1, .ref s0] dX8_readLink_61 vl_X8_112 h (fun r F1 hg n => ct_X8_figure hg) ⟨Nat.le_of_ble_eq_true rfl, Nat.le_of_ble_eq_true rfl⟩ ⟨Nat.zero_le _, Nat.zero_le _⟩ (Nat.le_of_ble_eq_true rfl) (fun _ _ => rfl) rfl (fun x63 F62 h => ?_)
  refine pw_istore_n hO [(2, .int x63), (0, .ref v0), (1, .int v1)] dX8_readLink_64 (by decide) rfl ?_
  refine pw_iload_n hO dX8_readLink_65 0 rfl ?_
  refine pw_bipush hO dX8_readLink_66 (v := (-9)) (by decide) ?_
  refine pw_icmp_ne (tgt := 76) hO dX8_readLink_68 (by decide) h (fun c64 h => ?_) (fun c64 h => ?_)
  · refine pw_aload_n hO dX8_readLink_76 1 rfl ?_
    refine pw_getR hO dX8_readLink_77 fl_X8_13 h (fun q65 h => ?_)
    refine pw_iload_n hO dX8_readLink_80 2 rfl ?_
    refine pw_iconst hO dX8_readLink_81 (v := 2) (by decide) ?_
    refine pw_icmp_ge (tgt := 92) hO dX8_readLink_82 (by decide) h (fun c66 h => ?_) (fun c66 h => ?_)
    · refine pw_iload_n hO dX8_readLink_92 2 rfl ?_
      refine pw_iconst hO dX8_readLink_93 (v := 2) (by decide) ?_
      refine pw_isub hO dX8_readLink_94 ?_
      refine pw_iconst hO dX8_readLink_95 (v := 3) (by decide) ?_
      refine pw_idivc hO dX8_readLink_96 (by decide) ?_
      refine pw_SI (as := [.int ((v1 - 2) / 3)]) (st := [.ref q65]) (d := 0) hO [.int ((v1 - 2) / 3), .ref q65] dX8_readLink_97 sl_X8_65 h (fun r F1 hg n => ct_X8_at hg) ⟨Nat.le_of_ble_eq_true rfl, Nat.le_of_ble_eq_true rfl⟩ ⟨Nat.zero_le _, Nat.zero_le _⟩ (Nat.le_of_ble_eq_true rfl) (fun _ _ => rfl) rfl (fun x68 F67 h => ?_)
      refine pw_iload_n hO dX8_readLink_100 2 rfl ?_
      refine pw_iconst hO dX8_readLink_101 (v := 2) (by decide) ?_
      refine pw_isub hO dX8_readLink_102 ?_
      refine pw_iconst hO dX8_readLink_103 (v := 3) (by decide) ?_
      refine pw_iremc hO dX8_readLink_104 (by decide) ?_
      refine pw_iadd hO dX8_readLink_105 ?_
      refine pw_sub (lv1 := [(0, .ref v0), (1, .int v1), (2, .int x63)]) [1, 2, 0] rfl ?_
      exact bl_X8_readLink_b106 hX rec44 hrec44 F67 v0 v1 x63 q65 ((x68 + (jrem (v1 - 2) 3))) h
    · refine pw_bipush hO dX8_readLink_85 (v := 9) (by decide) ?_
      refine pw_iload_n hO dX8_readLink_87 2 rfl ?_
      refine pw_iadd hO dX8_readLink_88 ?_
      refine pw_goto (tgt := 106) hO dX8_readLink_89 (by decide) ?_
      refine pw_sub (lv1 := [(0, .ref v0), (1, .int v1), (2, .int x63)]) [1, 2, 0] rfl ?_
      exact bl_X8_readLink_b106 hX rec44 hrec44 F62 v0 v1 x63 q65 ((9 + v1)) h
  · refine pw_aload_n hO dX8_readLink_71 1 rfl ?_
    refine pw_getI hO dX8_readLink_72 fl_X8_104 h (fun x70 h => ?_)
    exact pw_iret hO hX.2 dX8_readLink_75 h
def g_X8_readLink_b44 : Nat → Hp → Nat → Int32 → Option (Int32 × Hp)
  | 0, _, _, _ => none
  | n + 1, F, v0, v1 => (if 8 ≤ v1 then ((gR F v0 8 4).bind fun q13 => (bnd2 (g_X8_at F 0) fun x15 F14 => ((gR F14 v0 8 4).bind fun q16 => (bnd2 (g_X8_at F14 1) fun x18 F17 => ((aI F17 q16 0 x18).bind fun x19 => ((sI F17 q13 0 (x15 + 3) x19).bind fun F20 => ((gR F20 v0 8 4).bind fun q21 => (bnd2 (g_X8_at F20 1) fun x23 F22 => ((gR F22 v0 8 4).bind fun q24 => (bnd2 (g_X8_at F22 0) fun x26 F25 => ((aI F25 q24 0 x26).bind fun x27 => ((sI F25 q21 0 (x23 + 3) x27).bind fun F28 => g_X8_readLink_b154 gF F28 v0)))))))))))) else (if v1 = 1 then g_X8_readLink_b61 (g_X8_readLink_b44 n) F v0 v1 v0 2 else g_X8_readLink_b61 (g_X8_readLink_b44 n) F v0 v1 v0 1))
set_option maxHeartbeats 4000000 in
theorem bl_X8_readLink_b44 {X : Cx} {rx : Int32} {F' : Hp} (hX : Md X cX8_readLink RX8 3 (rmd 2) (some FieldType.int) false (some (.int rx)) F') : ∀ (n : Nat) (F : Hp) (v0 : Nat) (v1 : Int32), g_X8_readLink_b44 n F v0 v1 = some (rx, F') → PW X 0 0 F 44 [(0, .ref v0), (1, .int v1)] [] := by
  have hO := hX.1
  intro n
  induction n with
  | zero => intro F v0 v1 h; rw [g_X8_readLink_b44] at h; cases h
  | succ n ih =>
    intro F v0 v1 h
    rw [g_X8_readLink_b44] at h
    refine pw_iload_n hO dX8_readLink_44 1 rfl ?_
    refine pw_bipush hO dX8_readLink_45 (v := 8) (by decide) ?_
    refine pw_icmp_ge (tgt := 114) hO dX8_readLink_47 (by decide) h (fun c12 h => ?_) (fun c12 h => ?_)
    · refine pw_aload_n hO dX8_readLink_114 0 rfl ?_
      refine pw_getR hO dX8_readLink_115 fl_X8_13 h (fun q13 h => ?_)
      refine pw_iconst hO dX8_readLink_118 (v := 0) (by decide) ?_
      refine pw_SI (as := [.int 0]) (st := [.ref q13]) (d := 0) hO [.int 0, .ref q13] dX8_readLink_119 sl_X8_65 h (fun r F1 hg n => ct_X8_at hg) ⟨Nat.le_of_ble_eq_true rfl, Nat.le_of_ble_eq_true rfl⟩ ⟨Nat.zero_le _, Nat.zero_le _⟩ (Nat.le_of_ble_eq_true rfl) (fun _ _ => rfl) rfl (fun x15 F14 h => ?_)
      refine pw_iconst hO dX8_readLink_122 (v := 3) (by decide) ?_
      refine pw_iadd hO dX8_readLink_123 ?_
      refine pw_aload_n hO dX8_readLink_124 0 rfl ?_
      refine pw_getR hO dX8_readLink_125 fl_X8_13 h (fun q16 h => ?_)
      refine pw_iconst hO dX8_readLink_128 (v := 1) (by decide) ?_
      refine pw_SI (as := [.int 1]) (st := [.ref q16, .int (x15 + 3), .ref q13]) (d := 0) hO [.int 1, .ref q16, .int (x15 + 3), .ref q13] dX8_readLink_129 sl_X8_65 h (fun r F1 hg n => ct_X8_at hg) ⟨Nat.le_of_ble_eq_true rfl, Nat.le_of_ble_eq_true rfl⟩ ⟨Nat.zero_le _, Nat.zero_le _⟩ (Nat.le_of_ble_eq_true rfl) (fun _ _ => rfl) rfl (fun x18 F17 h => ?_)
      refine pw_iald hO dX8_readLink_132 h (fun x19 h => ?_)
      refine pw_iast hO dX8_readLink_133 h (fun F20 h => ?_)
      refine pw_aload_n hO dX8_readLink_134 0 rfl ?_
      refine pw_getR hO dX8_readLink_135 fl_X8_13 h (fun q21 h => ?_)
      refine pw_iconst hO dX8_readLink_138 (v := 1) (by decide) ?_
      refine pw_SI (as := [.int 1]) (st := [.ref q21]) (d := 0) hO [.int 1, .ref q21] dX8_readLink_139 sl_X8_65 h (fun r F1 hg n => ct_X8_at hg) ⟨Nat.le_of_ble_eq_true rfl, Nat.le_of_ble_eq_true rfl⟩ ⟨Nat.zero_le _, Nat.zero_le _⟩ (Nat.le_of_ble_eq_true rfl) (fun _ _ => rfl) rfl (fun x23 F22 h => ?_)
      refine pw_iconst hO dX8_readLink_142 (v := 3) (by decide) ?_
      refine pw_iadd hO dX8_readLink_143 ?_
      refine pw_aload_n hO dX8_readLink_144 0 rfl ?_
      refine pw_getR hO dX8_readLink_145 fl_X8_13 h (fun q24 h => ?_)
      refine pw_iconst hO dX8_readLink_148 (v := 0) (by decide) ?_
      refine pw_SI (as := [.int 0]) (st := [.ref q24, .int (x23 + 3), .ref q21]) (d := 0) hO [.int 0, .ref q24, .int (x23 + 3), .ref q21] dX8_readLink_149 sl_X8_65 h (fun r F1 hg n => ct_X8_at hg) ⟨Nat.le_of_ble_eq_true rfl, Nat.le_of_ble_eq_true rfl⟩ ⟨Nat.zero_le _, Nat.zero_le _⟩ (Nat.le_of_ble_eq_true rfl) (fun _ _ => rfl) rfl (fun x26 F25 h => ?_)
      refine pw_iald hO dX8_readLink_152 h (fun x27 h => ?_)
      refine pw_iast hO dX8_readLink_153 h (fun F28 h => ?_)
      refine pw_sub (lv1 := [(0, .ref v0)]) [0] rfl ?_
      exact bl_X8_readLink_b154 hX gF F28 v0 h
    · refine pw_aload_n hO dX8_readLink_50 0 rfl ?_
      refine pw_iload_n hO dX8_readLink_51 1 rfl ?_
      refine pw_iconst hO dX8_readLink_52 (v := 1) (by decide) ?_
      refine pw_icmp_ne (tgt := 60) hO dX8_readLink_53 (by decide) h (fun c61 h => ?_) (fun c61 h => ?_)
      · refine pw_iconst hO dX8_readLink_60 (v := 1) (by decide) ?_
        refine pw_sub (lv1 := [(0, .ref v0), (1, .int v1)]) [0, 1] rfl ?_
        exact bl_X8_readLink_b61 hX (g_X8_readLink_b44 n) ih F v0 v1 v0 1 h
      · refine pw_iconst hO dX8_readLink_56 (v := 2) (by decide) ?_
        refine pw_goto (tgt := 61) hO dX8_readLink_57 (by decide) ?_
        refine pw_sub (lv1 := [(0, .ref v0), (1, .int v1)]) [0, 1] rfl ?_
        exact bl_X8_readLink_b61 hX (g_X8_readLink_b44 n) ih F v0 v1 v0 2 h
def g_X8_readLink (F : Hp) (a0 : Nat) : Option (Int32 × Hp) := ((pV F a0 8 3 (.int 0)).bind fun F1 => ((pV F1 a0 8 6 (.int 0)).bind fun F2 => ((gR F2 a0 8 4).bind fun q3 => ((g_X8_layFirst F2 q3).bind fun F4 => ((gI F4 a0 8 2).bind fun x6 => (if x6 = 0 then some (0, F4) else ((gR F4 a0 8 1).bind fun q8 => ((aI F4 q8 0 0).bind fun x9 => (if x9 = 76 then ((pV F4 a0 8 3 (.int 1)).bind fun F11 => g_X8_readLink_b44 gF F11 a0 0) else some (0, F4))))))))))
set_option maxHeartbeats 4000000 in
theorem bl_X8_readLink {X : Cx} {rx : Int32} {F' : Hp} (hX : Md X cX8_readLink RX8 3 (rmd 2) (some FieldType.int) false (some (.int rx)) F') (F : Hp) (a0 : Nat) (h : g_X8_readLink F a0 = some (rx, F')) : PW X 0 0 F 0 [(0, .ref a0)] [] := by
  have hO := hX.1
  unfold g_X8_readLink at h
  refine pw_aload_n hO dX8_readLink_0 0 rfl ?_
  refine pw_iconst hO dX8_readLink_1 (v := 0) (by decide) ?_
  refine pw_putI hO dX8_readLink_2 fp_X8_104 h (fun F1 h => ?_)
  refine pw_aload_n hO dX8_readLink_5 0 rfl ?_
  refine pw_iconst hO dX8_readLink_6 (v := 0) (by decide) ?_
  refine pw_putI hO dX8_readLink_7 fp_X8_109 h (fun F2 h => ?_)
  refine pw_aload_n hO dX8_readLink_10 0 rfl ?_
  refine pw_getR hO dX8_readLink_11 fl_X8_13 h (fun q3 h => ?_)
  refine pw_S0 (as := [.ref q3]) (st := []) (d := 0) hO [.ref q3] dX8_readLink_14 sl_X8_54 h (fun F1 hg n => ct_X8_layFirst hg) ⟨Nat.le_of_ble_eq_true rfl, Nat.le_of_ble_eq_true rfl⟩ ⟨Nat.zero_le _, Nat.zero_le _⟩ (Nat.le_of_ble_eq_true rfl) (fun _ _ => rfl) rfl (fun F4 h => ?_)
  refine pw_aload_n hO dX8_readLink_17 0 rfl ?_
  refine pw_getI hO dX8_readLink_18 fl_X8_101 h (fun x6 h => ?_)
  refine pw_if_eq (tgt := 35) hO dX8_readLink_21 (by decide) h (fun c7 h => ?_) (fun c7 h => ?_)
  · refine pw_iconst hO dX8_readLink_35 (v := 0) (by decide) ?_
    exact pw_iret hO hX.2 dX8_readLink_36 h
  · refine pw_aload_n hO dX8_readLink_24 0 rfl ?_
    refine pw_getR hO dX8_readLink_25 fl_X8_7 h (fun q8 h => ?_)
    refine pw_iconst hO dX8_readLink_28 (v := 0) (by decide) ?_
    refine pw_iald hO dX8_readLink_29 h (fun x9 h => ?_)
    refine pw_bipush hO dX8_readLink_30 (v := 76) (by decide) ?_
    refine pw_icmp_eq (tgt := 37) hO dX8_readLink_32 (by decide) h (fun c10 h => ?_) (fun c10 h => ?_)
    · refine pw_aload_n hO dX8_readLink_37 0 rfl ?_
      refine pw_iconst hO dX8_readLink_38 (v := 1) (by decide) ?_
      refine pw_putI hO dX8_readLink_39 fp_X8_104 h (fun F11 h => ?_)
      refine pw_iconst hO dX8_readLink_42 (v := 0) (by decide) ?_
      refine pw_istore_n hO [(1, .int 0), (0, .ref a0)] dX8_readLink_43 (by decide) rfl ?_
      refine pw_sub (lv1 := [(0, .ref a0), (1, .int 0)]) [1, 0] rfl ?_
      exact bl_X8_readLink_b44 hX gF F11 a0 0 h
    · refine pw_iconst hO dX8_readLink_35 (v := 0) (by decide) ?_
      exact pw_iret hO hX.2 dX8_readLink_36 h
theorem ct_X8_readLink {n : Nat} {F : Hp} {a0 : Nat} {rx : Int32} {F' : Hp} (h : g_X8_readLink F a0 = some (rx, F')) : CT yX8_readLink cX8_readLink 3 (some FieldType.int) (rmd 2) n F [.ref a0] (some (.int rx)) F' :=
  ct_intro (own := RX8) (nm := false) (by decide) rfl (fun h => by cases h) (Nat.le_of_ble_eq_true rfl) (fun X hn hX => bl_X8_readLink hX F a0 h)
def g_X8_fault (F : Hp) (a0 : Nat) : Option (Int32 × Hp) := ((pV F a0 8 0 (.int 0)).bind fun F1 => (ckO F1 a0 8 (bnd2 (g_X8_readLink F1 a0) fun x3 F2 => some (x3, F2))))
set_option maxHeartbeats 4000000 in
theorem bl_X8_fault {X : Cx} {rx : Int32} {F' : Hp} (hX : Md X cX8_fault RX8 1 (rmd 3) (some FieldType.int) false (some (.int rx)) F') (F : Hp) (a0 : Nat) (h : g_X8_fault F a0 = some (rx, F')) : PW X 0 0 F 0 [(0, .ref a0)] [] := by
  have hO := hX.1
  unfold g_X8_fault at h
  refine pw_aload_n hO dX8_fault_0 0 rfl ?_
  refine pw_iconst hO dX8_fault_1 (v := 0) (by decide) ?_
  refine pw_putI hO dX8_fault_2 fp_X8_58 h (fun F1 h => ?_)
  refine pw_aload_n hO dX8_fault_5 0 rfl ?_
  refine pw_VI (a := a0) (ci := 8) (as := []) (st := []) (d := 2) hO [.ref a0] dX8_fault_6 vl_X8_119 h (fun r F1 hg n => ct_X8_readLink hg) ⟨Nat.le_of_ble_eq_true rfl, Nat.le_of_ble_eq_true rfl⟩ ⟨Nat.zero_le _, Nat.zero_le _⟩ (Nat.le_of_ble_eq_true rfl) (fun _ _ => rfl) rfl (fun x3 F2 h => ?_)
  exact pw_iret hO hX.2 dX8_fault_9 h
theorem ct_X8_fault {n : Nat} {F : Hp} {a0 : Nat} {rx : Int32} {F' : Hp} (h : g_X8_fault F a0 = some (rx, F')) : CT yX8_fault cX8_fault 1 (some FieldType.int) (rmd 3) n F [.ref a0] (some (.int rx)) F' :=
  ct_intro (own := RX8) (nm := false) (by decide) rfl (fun h => by cases h) (Nat.le_of_ble_eq_true rfl) (fun X hn hX => bl_X8_fault hX F a0 h)
def g_X8_doEvent_b8 : Nat → Hp → Nat → Nat → Int32 → Int32 → Option Hp
  | 0, _, _, _, _, _ => none
  | n + 1, F, v0, v1, v2, v3 => (if v2 ≤ v3 then some F else (ckO F v0 8 ((g_X8_tick F v0 v1).bind fun F10 => g_X8_doEvent_b8 n F10 v0 v1 v2 ((v3 + 1)))))
set_option maxHeartbeats 4000000 in
theorem bl_X8_doEvent_b8 {X : Cx} {F' : Hp} (hX : Md X cX8_doEvent RX8 4 (rmd 3) none false none F') : ∀ (n : Nat) (F : Hp) (v0 : Nat) (v1 : Nat) (v2 : Int32) (v3 : Int32), g_X8_doEvent_b8 n F v0 v1 v2 v3 = some F' → PW X 0 0 F 8 [(0, .ref v0), (1, .ref v1), (2, .int v2), (3, .int v3)] [] := by
  have hO := hX.1
  intro n
  induction n with
  | zero => intro F v0 v1 v2 v3 h; rw [g_X8_doEvent_b8] at h; cases h
  | succ n ih =>
    intro F v0 v1 v2 v3 h
    rw [g_X8_doEvent_b8] at h
    refine pw_iload_n hO dX8_doEvent_8 3 rfl ?_
    refine pw_iload_n hO dX8_doEvent_9 2 rfl ?_
    refine pw_icmp_ge (tgt := 24) hO dX8_doEvent_10 (by decide) h (fun c9 h => ?_) (fun c9 h => ?_)
    · refine pw_goto (tgt := 58) hO dX8_doEvent_24 (by decide) ?_
      exact pw_vret hO hX.2 dX8_doEvent_58 h
    · refine pw_aload_n hO dX8_doEvent_13 0 rfl ?_
      refine pw_aload_n hO dX8_doEvent_14 1 rfl ?_
      refine pw_V0 (a := v0) (ci := 8) (as := [.ref v1]) (st := []) (d := 2) hO [.ref v1, .ref v0] dX8_doEvent_15 vl_X8_96 h (fun F1 hg n => ct_X8_tick hg) ⟨Nat.le_of_ble_eq_true rfl, Nat.le_of_ble_eq_true rfl⟩ ⟨Nat.zero_le _, Nat.zero_le _⟩ (Nat.le_of_ble_eq_true rfl) (fun _ _ => rfl) rfl (fun F10 h => ?_)
      refine pw_iinc hO [(3, .int (v3 + 1)), (0, .ref v0), (1, .ref v1), (2, .int v2)] dX8_doEvent_18 3 rfl rfl (by decide) rfl ?_
      refine pw_goto (tgt := 8) hO dX8_doEvent_21 (by decide) ?_
      refine pw_sub (lv1 := [(0, .ref v0), (1, .ref v1), (2, .int v2), (3, .int (v3 + 1))]) [1, 2, 3, 0] rfl ?_
      exact ih F10 v0 v1 v2 ((v3 + 1)) h
def g_X8_doEvent (F : Hp) (a0 : Nat) (a1 : Nat) (a2 : Int32) : Option Hp := (if 10 ≤ a2 then (bnd2 (g_X8_isFull F a1 (a2 - 10)) fun x3 F2 => (if x3 = 0 then ((g_X8_comeOn F2 a1 (a2 - 10) 0).bind fun F5 => some F5) else ((aI F2 a1 0 8).bind fun x7 => ((sI F2 a1 0 8 (x7 + 1)).bind fun F8 => some F8)))) else g_X8_doEvent_b8 gF F a0 a1 a2 0)
set_option maxHeartbeats 4000000 in
theorem bl_X8_doEvent {X : Cx} {F' : Hp} (hX : Md X cX8_doEvent RX8 4 (rmd 3) none false none F') (F : Hp) (a0 : Nat) (a1 : Nat) (a2 : Int32) (h : g_X8_doEvent F a0 a1 a2 = some F') : PW X 0 0 F 0 [(0, .ref a0), (1, .ref a1), (2, .int a2)] [] := by
  have hO := hX.1
  unfold g_X8_doEvent at h
  refine pw_iload_n hO dX8_doEvent_0 2 rfl ?_
  refine pw_bipush hO dX8_doEvent_1 (v := 10) (by decide) ?_
  refine pw_icmp_ge (tgt := 27) hO dX8_doEvent_3 (by decide) h (fun c1 h => ?_) (fun c1 h => ?_)
  · refine pw_aload_n hO dX8_doEvent_27 1 rfl ?_
    refine pw_iload_n hO dX8_doEvent_28 2 rfl ?_
    refine pw_bipush hO dX8_doEvent_29 (v := 10) (by decide) ?_
    refine pw_isub hO dX8_doEvent_31 ?_
    refine pw_SI (as := [.ref a1, .int (a2 - 10)]) (st := []) (d := 1) hO [.int (a2 - 10), .ref a1] dX8_doEvent_32 sl_X8_123 h (fun r F1 hg n => ct_X8_isFull hg) ⟨Nat.le_of_ble_eq_true rfl, Nat.le_of_ble_eq_true rfl⟩ ⟨Nat.zero_le _, Nat.zero_le _⟩ (Nat.le_of_ble_eq_true rfl) (fun _ _ => rfl) rfl (fun x3 F2 h => ?_)
    refine pw_if_eq (tgt := 49) hO dX8_doEvent_35 (by decide) h (fun c4 h => ?_) (fun c4 h => ?_)
    · refine pw_aload_n hO dX8_doEvent_49 1 rfl ?_
      refine pw_iload_n hO dX8_doEvent_50 2 rfl ?_
      refine pw_bipush hO dX8_doEvent_51 (v := 10) (by decide) ?_
      refine pw_isub hO dX8_doEvent_53 ?_
      refine pw_iconst hO dX8_doEvent_54 (v := 0) (by decide) ?_
      refine pw_S0 (as := [.ref a1, .int (a2 - 10), .int 0]) (st := []) (d := 1) hO [.int 0, .int (a2 - 10), .ref a1] dX8_doEvent_55 sl_X8_126 h (fun F1 hg n => ct_X8_comeOn hg) ⟨Nat.le_of_ble_eq_true rfl, Nat.le_of_ble_eq_true rfl⟩ ⟨Nat.zero_le _, Nat.zero_le _⟩ (Nat.le_of_ble_eq_true rfl) (fun _ _ => rfl) rfl (fun F5 h => ?_)
      exact pw_vret hO hX.2 dX8_doEvent_58 h
    · refine pw_aload_n hO dX8_doEvent_38 1 rfl ?_
      refine pw_bipush hO dX8_doEvent_39 (v := 8) (by decide) ?_
      refine pw_dup2 hO dX8_doEvent_41 rfl rfl ?_
      refine pw_iald hO dX8_doEvent_42 h (fun x7 h => ?_)
      refine pw_iconst hO dX8_doEvent_43 (v := 1) (by decide) ?_
      refine pw_iadd hO dX8_doEvent_44 ?_
      refine pw_iast hO dX8_doEvent_45 h (fun F8 h => ?_)
      refine pw_goto (tgt := 58) hO dX8_doEvent_46 (by decide) ?_
      exact pw_vret hO hX.2 dX8_doEvent_58 h
  · refine pw_iconst hO dX8_doEvent_6 (v := 0) (by decide) ?_
    refine pw_istore_n hO [(3, .int 0), (0, .ref a0), (1, .ref a1), (2, .int a2)] dX8_doEvent_7 (by decide) rfl ?_
    refine pw_sub (lv1 := [(0, .ref a0), (1, .ref a1), (2, .int a2), (3, .int 0)]) [1, 2, 3, 0] rfl ?_
    exact bl_X8_doEvent_b8 hX gF F a0 a1 a2 0 h
theorem ct_X8_doEvent {n : Nat} {F : Hp} {a0 : Nat} {a1 : Nat} {a2 : Int32} {F' : Hp} (h : g_X8_doEvent F a0 a1 a2 = some F') : CT yX8_doEvent cX8_doEvent 4 none (rmd 3) n F [.ref a0, .ref a1, .int a2] none F' :=
  ct_intro (own := RX8) (nm := false) (by decide) rfl (fun h => by cases h) (Nat.le_of_ble_eq_true rfl) (fun X hn hX => bl_X8_doEvent hX F a0 a1 a2 h)
def g_X8_link_b49 : Nat → Hp → Nat → Int32 → Option (Int32 × Hp)
  | 0, _, _, _ => none
  | n + 1, F, v0, v1 => ((gI F v0 8 10).bind fun x15 => (if x15 ≤ v1 then ((pV F v0 8 13 (.int 0)).bind fun F17 => ((gR F17 v0 8 15).bind fun q18 => ((sI F17 q18 1 0 0).bind fun F19 => ((gR F19 v0 8 15).bind fun q20 => ((sI F19 q20 1 1 0).bind fun F21 => ((gR F21 v0 8 7).bind fun q22 => ((aI F21 q22 0 3).bind fun x23 => some (x23, F21)))))))) else ((gR F v0 8 9).bind fun q24 => ((gR F v0 8 5).bind fun q25 => ((aI F q25 0 v1).bind fun x26 => ((sI F q24 0 v1 x26).bind fun F27 => ((gR F27 v0 8 7).bind fun q28 => ((gR F27 v0 8 9).bind fun q29 => ((aI F27 q29 0 v1).bind fun x30 => (ckO F27 v0 8 ((g_X8_doEvent F27 v0 q28 x30).bind fun F31 => g_X8_link_b49 n F31 v0 ((v1 + 1)))))))))))))
set_option maxHeartbeats 4000000 in
theorem bl_X8_link_b49 {X : Cx} {rx : Int32} {F' : Hp} (hX : Md X cX8_link RX8 2 (rmd 4) (some FieldType.int) false (some (.int rx)) F') : ∀ (n : Nat) (F : Hp) (v0 : Nat) (v1 : Int32), g_X8_link_b49 n F v0 v1 = some (rx, F') → PW X 0 0 F 49 [(0, .ref v0), (1, .int v1)] [] := by
  have hO := hX.1
  intro n
  induction n with
  | zero => intro F v0 v1 h; rw [g_X8_link_b49] at h; cases h
  | succ n ih =>
    intro F v0 v1 h
    rw [g_X8_link_b49] at h
    refine pw_iload_n hO dX8_link_49 1 rfl ?_
    refine pw_aload_n hO dX8_link_50 0 rfl ?_
    refine pw_getI hO dX8_link_51 fl_X8_130 h (fun x15 h => ?_)
    refine pw_icmp_ge (tgt := 89) hO dX8_link_54 (by decide) h (fun c16 h => ?_) (fun c16 h => ?_)
    · refine pw_aload_n hO dX8_link_89 0 rfl ?_
      refine pw_iconst hO dX8_link_90 (v := 0) (by decide) ?_
      refine pw_putI hO dX8_link_91 fp_X8_136 h (fun F17 h => ?_)
      refine pw_aload_n hO dX8_link_94 0 rfl ?_
      refine pw_getR hO dX8_link_95 fl_X8_37 h (fun q18 h => ?_)
      refine pw_iconst hO dX8_link_98 (v := 0) (by decide) ?_
      refine pw_iconst hO dX8_link_99 (v := 0) (by decide) ?_
      refine pw_zast hO dX8_link_100 (by decide) h (fun F19 h => ?_)
      refine pw_aload_n hO dX8_link_101 0 rfl ?_
      refine pw_getR hO dX8_link_102 fl_X8_37 h (fun q20 h => ?_)
      refine pw_iconst hO dX8_link_105 (v := 1) (by decide) ?_
      refine pw_iconst hO dX8_link_106 (v := 0) (by decide) ?_
      refine pw_zast hO dX8_link_107 (by decide) h (fun F21 h => ?_)
      refine pw_aload_n hO dX8_link_108 0 rfl ?_
      refine pw_getR hO dX8_link_109 fl_X8_19 h (fun q22 h => ?_)
      refine pw_iconst hO dX8_link_112 (v := 3) (by decide) ?_
      refine pw_iald hO dX8_link_113 h (fun x23 h => ?_)
      exact pw_iret hO hX.2 dX8_link_114 h
    · refine pw_aload_n hO dX8_link_57 0 rfl ?_
      refine pw_getR hO dX8_link_58 fl_X8_25 h (fun q24 h => ?_)
      refine pw_iload_n hO dX8_link_61 1 rfl ?_
      refine pw_aload_n hO dX8_link_62 0 rfl ?_
      refine pw_getR hO dX8_link_63 fl_X8_16 h (fun q25 h => ?_)
      refine pw_iload_n hO dX8_link_66 1 rfl ?_
      refine pw_iald hO dX8_link_67 h (fun x26 h => ?_)
      refine pw_iast hO dX8_link_68 h (fun F27 h => ?_)
      refine pw_aload_n hO dX8_link_69 0 rfl ?_
      refine pw_aload_n hO dX8_link_70 0 rfl ?_
      refine pw_getR hO dX8_link_71 fl_X8_19 h (fun q28 h => ?_)
      refine pw_aload_n hO dX8_link_74 0 rfl ?_
      refine pw_getR hO dX8_link_75 fl_X8_25 h (fun q29 h => ?_)
      refine pw_iload_n hO dX8_link_78 1 rfl ?_
      refine pw_iald hO dX8_link_79 h (fun x30 h => ?_)
      refine pw_V0 (a := v0) (ci := 8) (as := [.ref q28, .int x30]) (st := []) (d := 3) hO [.int x30, .ref q28, .ref v0] dX8_link_80 vl_X8_133 h (fun F1 hg n => ct_X8_doEvent hg) ⟨Nat.le_of_ble_eq_true rfl, Nat.le_of_ble_eq_true rfl⟩ ⟨Nat.zero_le _, Nat.zero_le _⟩ (Nat.le_of_ble_eq_true rfl) (fun _ _ => rfl) rfl (fun F31 h => ?_)
      refine pw_iinc hO [(1, .int (v1 + 1)), (0, .ref v0)] dX8_link_83 1 rfl rfl (by decide) rfl ?_
      refine pw_goto (tgt := 49) hO dX8_link_86 (by decide) ?_
      refine pw_sub (lv1 := [(0, .ref v0), (1, .int (v1 + 1))]) [1, 0] rfl ?_
      exact ih F31 v0 ((v1 + 1)) h
def g_X8_link (F : Hp) (a0 : Nat) : Option (Int32 × Hp) := ((pV F a0 8 0 (.int 0)).bind fun F1 => (ckO F1 a0 8 (bnd2 (g_X8_readLink F1 a0) fun x3 F2 => (if x3 = (-9) then ((gR F2 a0 8 4).bind fun q5 => ((gR F2 a0 8 8).bind fun q6 => ((g_X8_lay F2 q5 q6).bind fun F7 => ((gI F7 a0 8 6).bind fun x9 => ((pV F7 a0 8 10 (.int x9)).bind fun F10 => ((gR F10 a0 8 8).bind fun q11 => ((gR F10 a0 8 7).bind fun q12 => ((g_X8_lay F10 q11 q12).bind fun F13 => g_X8_link_b49 gF F13 a0 0)))))))) else some ((-3), F2)))))
set_option maxHeartbeats 4000000 in
theorem bl_X8_link {X : Cx} {rx : Int32} {F' : Hp} (hX : Md X cX8_link RX8 2 (rmd 4) (some FieldType.int) false (some (.int rx)) F') (F : Hp) (a0 : Nat) (h : g_X8_link F a0 = some (rx, F')) : PW X 0 0 F 0 [(0, .ref a0)] [] := by
  have hO := hX.1
  unfold g_X8_link at h
  refine pw_aload_n hO dX8_link_0 0 rfl ?_
  refine pw_iconst hO dX8_link_1 (v := 0) (by decide) ?_
  refine pw_putI hO dX8_link_2 fp_X8_58 h (fun F1 h => ?_)
  refine pw_aload_n hO dX8_link_5 0 rfl ?_
  refine pw_VI (a := a0) (ci := 8) (as := []) (st := []) (d := 2) hO [.ref a0] dX8_link_6 vl_X8_119 h (fun r F1 hg n => ct_X8_readLink hg) ⟨Nat.le_of_ble_eq_true rfl, Nat.le_of_ble_eq_true rfl⟩ ⟨Nat.zero_le _, Nat.zero_le _⟩ (Nat.le_of_ble_eq_true rfl) (fun _ _ => rfl) rfl (fun x3 F2 h => ?_)
  refine pw_bipush hO dX8_link_9 (v := (-9)) (by decide) ?_
  refine pw_icmp_eq (tgt := 17) hO dX8_link_11 (by decide) h (fun c4 h => ?_) (fun c4 h => ?_)
  · refine pw_aload_n hO dX8_link_17 0 rfl ?_
    refine pw_getR hO dX8_link_18 fl_X8_13 h (fun q5 h => ?_)
    refine pw_aload_n hO dX8_link_21 0 rfl ?_
    refine pw_getR hO dX8_link_22 fl_X8_22 h (fun q6 h => ?_)
    refine pw_S0 (as := [.ref q5, .ref q6]) (st := []) (d := 0) hO [.ref q6, .ref q5] dX8_link_25 sl_X8_89 h (fun F1 hg n => ct_X8_lay hg) ⟨Nat.le_of_ble_eq_true rfl, Nat.le_of_ble_eq_true rfl⟩ ⟨Nat.zero_le _, Nat.zero_le _⟩ (Nat.le_of_ble_eq_true rfl) (fun _ _ => rfl) rfl (fun F7 h => ?_)
    refine pw_aload_n hO dX8_link_28 0 rfl ?_
    refine pw_aload_n hO dX8_link_29 0 rfl ?_
    refine pw_getI hO dX8_link_30 fl_X8_109 h (fun x9 h => ?_)
    refine pw_putI hO dX8_link_33 fp_X8_130 h (fun F10 h => ?_)
    refine pw_aload_n hO dX8_link_36 0 rfl ?_
    refine pw_getR hO dX8_link_37 fl_X8_22 h (fun q11 h => ?_)
    refine pw_aload_n hO dX8_link_40 0 rfl ?_
    refine pw_getR hO dX8_link_41 fl_X8_19 h (fun q12 h => ?_)
    refine pw_S0 (as := [.ref q11, .ref q12]) (st := []) (d := 0) hO [.ref q12, .ref q11] dX8_link_44 sl_X8_89 h (fun F1 hg n => ct_X8_lay hg) ⟨Nat.le_of_ble_eq_true rfl, Nat.le_of_ble_eq_true rfl⟩ ⟨Nat.zero_le _, Nat.zero_le _⟩ (Nat.le_of_ble_eq_true rfl) (fun _ _ => rfl) rfl (fun F13 h => ?_)
    refine pw_iconst hO dX8_link_47 (v := 0) (by decide) ?_
    refine pw_istore_n hO [(1, .int 0), (0, .ref a0)] dX8_link_48 (by decide) rfl ?_
    refine pw_sub (lv1 := [(0, .ref a0), (1, .int 0)]) [1, 0] rfl ?_
    exact bl_X8_link_b49 hX gF F13 a0 0 h
  · refine pw_bipush hO dX8_link_14 (v := (-3)) (by decide) ?_
    exact pw_iret hO hX.2 dX8_link_16 h
theorem ct_X8_link {n : Nat} {F : Hp} {a0 : Nat} {rx : Int32} {F' : Hp} (h : g_X8_link F a0 = some (rx, F')) : CT yX8_link cX8_link 2 (some FieldType.int) (rmd 4) n F [.ref a0] (some (.int rx)) F' :=
  ct_intro (own := RX8) (nm := false) (by decide) rfl (fun h => by cases h) (Nat.le_of_ble_eq_true rfl) (fun X hn hX => bl_X8_link hX F a0 h)
def g_X8_told_b50 (F : Hp) (v0 : Nat) : Option (Int32 × Hp) := ((aI F v0 0 1).bind fun x6 => some (x6, F))
set_option maxHeartbeats 4000000 in
theorem bl_X8_told_b50 {X : Cx} {rx : Int32} {F' : Hp} (hX : Md X cX8_told RX8 2 (rmd 2) (some FieldType.int) false (some (.int rx)) F') (F : Hp) (v0 : Nat) (h : g_X8_told_b50 F v0 = some (rx, F')) : PW X 0 0 F 50 [(0, .ref v0)] [] := by
  have hO := hX.1
  unfold g_X8_told_b50 at h
  refine pw_aload_n hO dX8_told_50 0 rfl ?_
  refine pw_iconst hO dX8_told_51 (v := 1) (by decide) ?_
  refine pw_iald hO dX8_told_52 h (fun x6 h => ?_)
  refine pw_goto (tgt := 57) hO dX8_told_53 (by decide) ?_
  exact pw_iret hO hX.2 dX8_told_57 h
def g_X8_told (F : Hp) (a0 : Nat) (a1 : Int32) : Option (Int32 × Hp) := (if a1 = 0 then ((aI F a0 0 0).bind fun x2 => some (x2, F)) else (if a1 = 1 then ((aI F a0 0 0).bind fun x4 => (if x4 = 1 then g_X8_told_b50 F a0 else ((aI F a0 0 0).bind fun x7 => (if x7 = 3 then g_X8_told_b50 F a0 else some (0, F))))) else (if a1 = 2 then ((aI F a0 0 0).bind fun x10 => (if x10 = 2 then ((aI F a0 0 2).bind fun x12 => some (x12, F)) else some (0, F))) else (if a1 = 3 then (bnd2 (g_X8_wakeTime F a0) fun x15 F14 => some (x15, F14)) else ((aI F a0 0 ((3 + a1) - 4)).bind fun x16 => some (x16, F))))))
set_option maxHeartbeats 4000000 in
theorem bl_X8_told {X : Cx} {rx : Int32} {F' : Hp} (hX : Md X cX8_told RX8 2 (rmd 2) (some FieldType.int) false (some (.int rx)) F') (F : Hp) (a0 : Nat) (a1 : Int32) (h : g_X8_told F a0 a1 = some (rx, F')) : PW X 0 0 F 0 [(0, .ref a0), (1, .int a1)] [] := by
  have hO := hX.1
  unfold g_X8_told at h
  refine pw_iload_n hO dX8_told_0 1 rfl ?_
  refine pw_sw h (fun c1 h => ?_) (fun c1 h => ?_)
  · refine pw_tin (tgt := 32) hO dX8_told_1 c1 (by decide) (by decide) (by rfl) (by decide) ?_
    refine pw_aload_n hO dX8_told_32 0 rfl ?_
    refine pw_iconst hO dX8_told_33 (v := 0) (by decide) ?_
    refine pw_iald hO dX8_told_34 h (fun x2 h => ?_)
    exact pw_iret hO hX.2 dX8_told_35 h
  refine pw_sw h (fun c3 h => ?_) (fun c3 h => ?_)
  · refine pw_tin (tgt := 36) hO dX8_told_1 c3 (by decide) (by decide) (by rfl) (by decide) ?_
    refine pw_aload_n hO dX8_told_36 0 rfl ?_
    refine pw_iconst hO dX8_told_37 (v := 0) (by decide) ?_
    refine pw_iald hO dX8_told_38 h (fun x4 h => ?_)
    refine pw_iconst hO dX8_told_39 (v := 1) (by decide) ?_
    refine pw_icmp_eq (tgt := 50) hO dX8_told_40 (by decide) h (fun c5 h => ?_) (fun c5 h => ?_)
    · refine pw_sub (lv1 := [(0, .ref a0)]) [0] rfl ?_
      exact bl_X8_told_b50 hX F a0 h
    · refine pw_aload_n hO dX8_told_43 0 rfl ?_
      refine pw_iconst hO dX8_told_44 (v := 0) (by decide) ?_
      refine pw_iald hO dX8_told_45 h (fun x7 h => ?_)
      refine pw_iconst hO dX8_told_46 (v := 3) (by decide) ?_
      refine pw_icmp_ne (tgt := 56) hO dX8_told_47 (by decide) h (fun c8 h => ?_) (fun c8 h => ?_)
      · refine pw_iconst hO dX8_told_56 (v := 0) (by decide) ?_
        exact pw_iret hO hX.2 dX8_told_57 h
      · refine pw_sub (lv1 := [(0, .ref a0)]) [0] rfl ?_
        exact bl_X8_told_b50 hX F a0 h
  refine pw_sw h (fun c9 h => ?_) (fun c9 h => ?_)
  · refine pw_tin (tgt := 58) hO dX8_told_1 c9 (by decide) (by decide) (by rfl) (by decide) ?_
    refine pw_aload_n hO dX8_told_58 0 rfl ?_
    refine pw_iconst hO dX8_told_59 (v := 0) (by decide) ?_
    refine pw_iald hO dX8_told_60 h (fun x10 h => ?_)
    refine pw_iconst hO dX8_told_61 (v := 2) (by decide) ?_
    refine pw_icmp_ne (tgt := 71) hO dX8_told_62 (by decide) h (fun c11 h => ?_) (fun c11 h => ?_)
    · refine pw_iconst hO dX8_told_71 (v := 0) (by decide) ?_
      exact pw_iret hO hX.2 dX8_told_72 h
    · refine pw_aload_n hO dX8_told_65 0 rfl ?_
      refine pw_iconst hO dX8_told_66 (v := 2) (by decide) ?_
      refine pw_iald hO dX8_told_67 h (fun x12 h => ?_)
      refine pw_goto (tgt := 72) hO dX8_told_68 (by decide) ?_
      exact pw_iret hO hX.2 dX8_told_72 h
  refine pw_sw h (fun c13 h => ?_) (fun c13 h => ?_)
  · refine pw_tin (tgt := 73) hO dX8_told_1 c13 (by decide) (by decide) (by rfl) (by decide) ?_
    refine pw_aload_n hO dX8_told_73 0 rfl ?_
    refine pw_SI (as := [.ref a0]) (st := []) (d := 1) hO [.ref a0] dX8_told_74 sl_X8_85 h (fun r F1 hg n => ct_X8_wakeTime hg) ⟨Nat.le_of_ble_eq_true rfl, Nat.le_of_ble_eq_true rfl⟩ ⟨Nat.zero_le _, Nat.zero_le _⟩ (Nat.le_of_ble_eq_true rfl) (fun _ _ => rfl) rfl (fun x15 F14 h => ?_)
    exact pw_iret hO hX.2 dX8_told_77 h
  refine pw_tout (tgt := 78) hO dX8_told_1 (by have e0 := lv_neT (a := 0) c1 (by decide); have e1 := lv_neT (a := 1) c3 (by decide); have e2 := lv_neT (a := 2) c9 (by decide); have e3 := lv_neT (a := 3) c13 (by decide); omega) (by decide) ?_
  refine pw_aload_n hO dX8_told_78 0 rfl ?_
  refine pw_iconst hO dX8_told_79 (v := 3) (by decide) ?_
  refine pw_iload_n hO dX8_told_80 1 rfl ?_
  refine pw_iadd hO dX8_told_81 ?_
  refine pw_iconst hO dX8_told_82 (v := 4) (by decide) ?_
  refine pw_isub hO dX8_told_83 ?_
  refine pw_iald hO dX8_told_84 h (fun x16 h => ?_)
  exact pw_iret hO hX.2 dX8_told_85 h
theorem ct_X8_told {n : Nat} {F : Hp} {a0 : Nat} {a1 : Int32} {rx : Int32} {F' : Hp} (h : g_X8_told F a0 a1 = some (rx, F')) : CT yX8_told cX8_told 2 (some FieldType.int) (rmd 2) n F [.ref a0, .int a1] (some (.int rx)) F' :=
  ct_intro (own := RX8) (nm := false) (by decide) rfl (fun h => by cases h) (Nat.le_of_ble_eq_true rfl) (fun X hn hX => bl_X8_told hX F a0 a1 h)
def g_X8_ask (F : Hp) (a0 : Nat) (a1 : Int32) : Option (Int32 × Hp) := ((pV F a0 8 0 (.int 0)).bind fun F1 => (bnd2 (g_X8_in F1 (Int32.toInt64 a1) (0 : Int64) (9 : Int64)) fun x3 F2 => (if x3 = 0 then (if a1 = 10 then ((gR F2 a0 8 7).bind fun q6 => (ckO F2 a0 8 (bnd2 (g_X8_quiet F2 a0 q6) fun x8 F7 => some (x8, F7)))) else some ((-2), F2)) else ((gR F2 a0 8 7).bind fun q9 => (bnd2 (g_X8_told F2 q9 a1) fun x11 F10 => some (x11, F10))))))
set_option maxHeartbeats 4000000 in
theorem bl_X8_ask {X : Cx} {rx : Int32} {F' : Hp} (hX : Md X cX8_ask RX8 2 (rmd 4) (some FieldType.int) false (some (.int rx)) F') (F : Hp) (a0 : Nat) (a1 : Int32) (h : g_X8_ask F a0 a1 = some (rx, F')) : PW X 0 0 F 0 [(0, .ref a0), (1, .int a1)] [] := by
  have hO := hX.1
  unfold g_X8_ask at h
  refine pw_aload_n hO dX8_ask_0 0 rfl ?_
  refine pw_iconst hO dX8_ask_1 (v := 0) (by decide) ?_
  refine pw_putI hO dX8_ask_2 fp_X8_58 h (fun F1 h => ?_)
  refine pw_iload_n hO dX8_ask_5 1 rfl ?_
  refine pw_i2l hO dX8_ask_6 ?_
  refine pw_lconst hO dX8_ask_7 (v := (0 : Int64)) (by decide) ?_
  refine pw_ldc2 hO dX8_ask_8 kl_X8_107 ?_
  refine pw_SI (as := [.long (Int32.toInt64 a1), .long (0 : Int64), .long (9 : Int64)]) (st := []) (d := 0) hO [.long (9 : Int64), .long (0 : Int64), .long (Int32.toInt64 a1)] dX8_ask_11 sl_X8_61 h (fun r F1 hg n => ct_X8_in hg) ⟨Nat.le_of_ble_eq_true rfl, Nat.le_of_ble_eq_true rfl⟩ ⟨Nat.zero_le _, Nat.zero_le _⟩ (Nat.le_of_ble_eq_true rfl) (fun _ _ => rfl) rfl (fun x3 F2 h => ?_)
  refine pw_if_eq (tgt := 28) hO dX8_ask_14 (by decide) h (fun c4 h => ?_) (fun c4 h => ?_)
  · refine pw_iload_n hO dX8_ask_28 1 rfl ?_
    refine pw_bipush hO dX8_ask_29 (v := 10) (by decide) ?_
    refine pw_icmp_ne (tgt := 45) hO dX8_ask_31 (by decide) h (fun c5 h => ?_) (fun c5 h => ?_)
    · refine pw_bipush hO dX8_ask_45 (v := (-2)) (by decide) ?_
      exact pw_iret hO hX.2 dX8_ask_47 h
    · refine pw_aload_n hO dX8_ask_34 0 rfl ?_
      refine pw_aload_n hO dX8_ask_35 0 rfl ?_
      refine pw_getR hO dX8_ask_36 fl_X8_19 h (fun q6 h => ?_)
      refine pw_VI (a := a0) (ci := 8) (as := [.ref q6]) (st := []) (d := 3) hO [.ref q6, .ref a0] dX8_ask_39 vl_X8_143 h (fun r F1 hg n => ct_X8_quiet hg) ⟨Nat.le_of_ble_eq_true rfl, Nat.le_of_ble_eq_true rfl⟩ ⟨Nat.zero_le _, Nat.zero_le _⟩ (Nat.le_of_ble_eq_true rfl) (fun _ _ => rfl) rfl (fun x8 F7 h => ?_)
      refine pw_goto (tgt := 47) hO dX8_ask_42 (by decide) ?_
      exact pw_iret hO hX.2 dX8_ask_47 h
  · refine pw_aload_n hO dX8_ask_17 0 rfl ?_
    refine pw_getR hO dX8_ask_18 fl_X8_19 h (fun q9 h => ?_)
    refine pw_iload_n hO dX8_ask_21 1 rfl ?_
    refine pw_SI (as := [.ref q9, .int a1]) (st := []) (d := 2) hO [.int a1, .ref q9] dX8_ask_22 sl_X8_139 h (fun r F1 hg n => ct_X8_told hg) ⟨Nat.le_of_ble_eq_true rfl, Nat.le_of_ble_eq_true rfl⟩ ⟨Nat.zero_le _, Nat.zero_le _⟩ (Nat.le_of_ble_eq_true rfl) (fun _ _ => rfl) rfl (fun x11 F10 h => ?_)
    refine pw_goto (tgt := 47) hO dX8_ask_25 (by decide) ?_
    exact pw_iret hO hX.2 dX8_ask_47 h
theorem ct_X8_ask {n : Nat} {F : Hp} {a0 : Nat} {a1 : Int32} {rx : Int32} {F' : Hp} (h : g_X8_ask F a0 a1 = some (rx, F')) : CT yX8_ask cX8_ask 2 (some FieldType.int) (rmd 4) n F [.ref a0, .int a1] (some (.int rx)) F' :=
  ct_intro (own := RX8) (nm := false) (by decide) rfl (fun h => by cases h) (Nat.le_of_ble_eq_true rfl) (fun X hn hX => bl_X8_ask hX F a0 a1 h)
def g_X8_goOver_b192 (F : Hp) (v0 : Nat) : Option Hp := ((pV F v0 8 21 (.int 7)).bind fun F15 => some F15)
set_option maxHeartbeats 4000000 in
theorem bl_X8_goOver_b192 {X : Cx} {F' : Hp} (hX : Md X cX8_goOver RX8 6 (rmd 4) none false none F') (F : Hp) (v0 : Nat) (h : g_X8_goOver_b192 F v0 = some F') : PW X 0 0 F 192 [(0, .ref v0)] [] := by
  have hO := hX.1
  unfold g_X8_goOver_b192 at h
  refine pw_aload_n hO dX8_goOver_192 0 rfl ?_
  refine pw_bipush hO dX8_goOver_193 (v := 7) (by decide) ?_
  refine pw_putI hO dX8_goOver_195 fp_X8_50 h (fun F15 h => ?_)
  exact pw_vret hO hX.2 dX8_goOver_198 h
def g_X8_goOver_b184 (rec139 : Hp → Nat → Int32 → Int32 → Int32 → Option Hp) (F : Hp) (v0 : Nat) (v1 : Int32) (v5 : Int32) (s0 : Int32) : Option Hp := rec139 F v0 v1 s0 ((v5 + 1))
set_option maxHeartbeats 4000000 in
theorem bl_X8_goOver_b184 {X : Cx} {F' : Hp} (hX : Md X cX8_goOver RX8 6 (rmd 4) none false none F') (rec139 : Hp → Nat → Int32 → Int32 → Int32 → Option Hp) (hrec139 : ∀ (F : Hp) (v0 : Nat) (v1 : Int32) (v4 : Int32) (v5 : Int32), rec139 F v0 v1 v4 v5 = some F' → PW X 0 0 F 139 [(0, .ref v0), (1, .int v1), (4, .int v4), (5, .int v5)] []) (F : Hp) (v0 : Nat) (v1 : Int32) (v5 : Int32) (s0 : Int32) (h : g_X8_goOver_b184 rec139 F v0 v1 v5 s0 = some F') : PW X 0 0 F 184 [(0, .ref v0), (1, .int v1), (5, .int v5)] [.int s0] := by
  have hO := hX.1
  unfold g_X8_goOver_b184 at h
  refine pw_istore hO [(4, .int s0), (0, .ref v0), (1, .int v1), (5, .int v5)] dX8_goOver_184 (by decide) rfl ?_
  refine pw_iinc hO [(5, .int (v5 + 1)), (4, .int s0), (0, .ref v0), (1, .int v1)] dX8_goOver_186 3 rfl rfl (by decide) rfl ?_
  refine pw_goto (tgt := 139) hO dX8_goOver_189 (by decide) ?_
  refine pw_sub (lv1 := [(0, .ref v0), (1, .int v1), (4, .int s0), (5, .int (v5 + 1))]) [2, 3, 1, 0] rfl ?_
  exact hrec139 F v0 v1 s0 ((v5 + 1)) h
def g_X8_goOver_b139 : Nat → Hp → Nat → Int32 → Int32 → Int32 → Option Hp
  | 0, _, _, _, _, _ => none
  | n + 1, F, v0, v1, v4, v5 => (if 99 ≤ v5 then g_X8_goOver_b192 F v0 else (if v4 = 0 then ((gR F v0 8 11).bind fun q17 => (ckO F v0 8 ((g_X8_tick F v0 q17).bind fun F18 => (bnd2 (g_X8_has F18 v1 2) fun x21 F20 => (if x21 = 0 then ((gR F20 v0 8 11).bind fun q23 => (bnd2 (g_X8_isEmpty F20 q23) fun x25 F24 => g_X8_goOver_b184 (g_X8_goOver_b139 n) F24 v0 v1 v5 x25)) else ((gR F20 v0 8 11).bind fun q26 => (bnd2 (g_X8_isQuiet F20 q26) fun x28 F27 => g_X8_goOver_b184 (g_X8_goOver_b139 n) F27 v0 v1 v5 x28))))))) else g_X8_goOver_b192 F v0))
set_option maxHeartbeats 4000000 in
theorem bl_X8_goOver_b139 {X : Cx} {F' : Hp} (hX : Md X cX8_goOver RX8 6 (rmd 4) none false none F') : ∀ (n : Nat) (F : Hp) (v0 : Nat) (v1 : Int32) (v4 : Int32) (v5 : Int32), g_X8_goOver_b139 n F v0 v1 v4 v5 = some F' → PW X 0 0 F 139 [(0, .ref v0), (1, .int v1), (4, .int v4), (5, .int v5)] [] := by
  have hO := hX.1
  intro n
  induction n with
  | zero => intro F v0 v1 v4 v5 h; rw [g_X8_goOver_b139] at h; cases h
  | succ n ih =>
    intro F v0 v1 v4 v5 h
    rw [g_X8_goOver_b139] at h
    refine pw_iload hO dX8_goOver_139 3 rfl ?_
    refine pw_bipush hO dX8_goOver_141 (v := 99) (by decide) ?_
    refine pw_icmp_ge (tgt := 192) hO dX8_goOver_143 (by decide) h (fun c14 h => ?_) (fun c14 h => ?_)
    · refine pw_sub (lv1 := [(0, .ref v0)]) [0] rfl ?_
      exact bl_X8_goOver_b192 hX F v0 h
    · refine pw_iload hO dX8_goOver_146 2 rfl ?_
      refine pw_if_ne (tgt := 192) hO dX8_goOver_148 (by decide) h (fun c16 h => ?_) (fun c16 h => ?_)
      · refine pw_sub (lv1 := [(0, .ref v0)]) [0] rfl ?_
        exact bl_X8_goOver_b192 hX F v0 h
      · refine pw_aload_n hO dX8_goOver_151 0 rfl ?_
        refine pw_aload_n hO dX8_goOver_152 0 rfl ?_
        refine pw_getR hO dX8_goOver_153 fl_X8_28 h (fun q17 h => ?_)
        refine pw_V0 (a := v0) (ci := 8) (as := [.ref q17]) (st := []) (d := 2) hO [.ref q17, .ref v0] dX8_goOver_156 vl_X8_96 h (fun F1 hg n => ct_X8_tick hg) ⟨Nat.le_of_ble_eq_true rfl, Nat.le_of_ble_eq_true rfl⟩ ⟨Nat.zero_le _, Nat.zero_le _⟩ (Nat.le_of_ble_eq_true rfl) (fun _ _ => rfl) rfl (fun F18 h => ?_)
        refine pw_iload_n hO dX8_goOver_159 1 rfl ?_
        refine pw_iconst hO dX8_goOver_160 (v := 2) (by decide) ?_
        refine pw_SI (as := [.int v1, .int 2]) (st := []) (d := 0) hO [.int 2, .int v1] dX8_goOver_161 sl_X8_69 h (fun r F1 hg n => ct_X8_has hg) ⟨Nat.le_of_ble_eq_true rfl, Nat.le_of_ble_eq_true rfl⟩ ⟨Nat.zero_le _, Nat.zero_le _⟩ (Nat.le_of_ble_eq_true rfl) (fun _ _ => rfl) rfl (fun x21 F20 h => ?_)
        refine pw_if_eq (tgt := 177) hO dX8_goOver_164 (by decide) h (fun c22 h => ?_) (fun c22 h => ?_)
        · refine pw_aload_n hO dX8_goOver_177 0 rfl ?_
          refine pw_getR hO dX8_goOver_178 fl_X8_28 h (fun q23 h => ?_)
          refine pw_SI (as := [.ref q23]) (st := []) (d := 1) hO [.ref q23] dX8_goOver_181 sl_X8_77 h (fun r F1 hg n => ct_X8_isEmpty hg) ⟨Nat.le_of_ble_eq_true rfl, Nat.le_of_ble_eq_true rfl⟩ ⟨Nat.zero_le _, Nat.zero_le _⟩ (Nat.le_of_ble_eq_true rfl) (fun _ _ => rfl) rfl (fun x25 F24 h => ?_)
          refine pw_sub (lv1 := [(0, .ref v0), (1, .int v1), (5, .int v5)]) [0, 1, 3] rfl ?_
          exact bl_X8_goOver_b184 hX (g_X8_goOver_b139 n) ih F24 v0 v1 v5 x25 h
        · refine pw_aload_n hO dX8_goOver_167 0 rfl ?_
          refine pw_getR hO dX8_goOver_168 fl_X8_28 h (fun q26 h => ?_)
          refine pw_SI (as := [.ref q26]) (st := []) (d := 2) hO [.ref q26] dX8_goOver_171 sl_X8_93 h (fun r F1 hg n => ct_X8_isQuiet hg) ⟨Nat.le_of_ble_eq_true rfl, Nat.le_of_ble_eq_true rfl⟩ ⟨Nat.zero_le _, Nat.zero_le _⟩ (Nat.le_of_ble_eq_true rfl) (fun _ _ => rfl) rfl (fun x28 F27 h => ?_)
          refine pw_goto (tgt := 184) hO dX8_goOver_174 (by decide) ?_
          refine pw_sub (lv1 := [(0, .ref v0), (1, .int v1), (5, .int v5)]) [0, 1, 3] rfl ?_
          exact bl_X8_goOver_b184 hX (g_X8_goOver_b139 n) ih F27 v0 v1 v5 x28 h
def g_X8_goOver_b134 (F : Hp) (v0 : Nat) (v1 : Int32) (s0 : Int32) : Option Hp := g_X8_goOver_b139 gF F v0 v1 s0 0
set_option maxHeartbeats 4000000 in
theorem bl_X8_goOver_b134 {X : Cx} {F' : Hp} (hX : Md X cX8_goOver RX8 6 (rmd 4) none false none F') (F : Hp) (v0 : Nat) (v1 : Int32) (s0 : Int32) (h : g_X8_goOver_b134 F v0 v1 s0 = some F') : PW X 0 0 F 134 [(0, .ref v0), (1, .int v1)] [.int s0] := by
  have hO := hX.1
  unfold g_X8_goOver_b134 at h
  refine pw_istore hO [(4, .int s0), (0, .ref v0), (1, .int v1)] dX8_goOver_134 (by decide) rfl ?_
  refine pw_iconst hO dX8_goOver_136 (v := 0) (by decide) ?_
  refine pw_istore hO [(5, .int 0), (4, .int s0), (0, .ref v0), (1, .int v1)] dX8_goOver_137 (by decide) rfl ?_
  refine pw_sub (lv1 := [(0, .ref v0), (1, .int v1), (4, .int s0), (5, .int 0)]) [2, 3, 1, 0] rfl ?_
  exact bl_X8_goOver_b139 hX gF F v0 v1 s0 0 h
def g_X8_goOver_b103 (rec21 : Hp → Nat → Int32 → Int32 → Int32 → Int32 → Option Hp) (F : Hp) (v0 : Nat) (v1 : Int32) (v2 : Int32) (v3 : Int32) (v4 : Int32) : Option Hp := rec21 F v0 v1 v2 v3 ((v4 + 1))
set_option maxHeartbeats 4000000 in
theorem bl_X8_goOver_b103 {X : Cx} {F' : Hp} (hX : Md X cX8_goOver RX8 6 (rmd 4) none false none F') (rec21 : Hp → Nat → Int32 → Int32 → Int32 → Int32 → Option Hp) (hrec21 : ∀ (F : Hp) (v0 : Nat) (v1 : Int32) (v2 : Int32) (v3 : Int32) (v4 : Int32), rec21 F v0 v1 v2 v3 v4 = some F' → PW X 0 0 F 21 [(0, .ref v0), (1, .int v1), (2, .int v2), (3, .int v3), (4, .int v4)] []) (F : Hp) (v0 : Nat) (v1 : Int32) (v2 : Int32) (v3 : Int32) (v4 : Int32) (h : g_X8_goOver_b103 rec21 F v0 v1 v2 v3 v4 = some F') : PW X 0 0 F 103 [(0, .ref v0), (1, .int v1), (2, .int v2), (3, .int v3), (4, .int v4)] [] := by
  have hO := hX.1
  unfold g_X8_goOver_b103 at h
  refine pw_iinc hO [(4, .int (v4 + 1)), (0, .ref v0), (1, .int v1), (2, .int v2), (3, .int v3)] dX8_goOver_103 4 rfl rfl (by decide) rfl ?_
  refine pw_goto (tgt := 21) hO dX8_goOver_106 (by decide) ?_
  refine pw_sub (lv1 := [(0, .ref v0), (1, .int v1), (2, .int v2), (3, .int v3), (4, .int (v4 + 1))]) [1, 2, 3, 4, 0] rfl ?_
  exact hrec21 F v0 v1 v2 v3 ((v4 + 1)) h
def g_X8_goOver_b81 (rec21 : Hp → Nat → Int32 → Int32 → Int32 → Int32 → Option Hp) (F : Hp) (v0 : Nat) (v1 : Int32) (v2 : Int32) (v4 : Int32) (v5 : Int32) (s0 : Int32) (s1 : Int32) : Option Hp := (if v5 = 0 then ((gR F v0 8 11).bind fun q39 => ((gR F v0 8 9).bind fun q40 => ((aI F q40 0 v4).bind fun x41 => (ckO F v0 8 ((g_X8_doEvent F v0 q39 x41).bind fun F42 => g_X8_goOver_b103 rec21 F42 v0 v1 v2 ((s0 + s1)) v4))))) else g_X8_goOver_b103 rec21 F v0 v1 v2 ((s0 + s1)) v4)
set_option maxHeartbeats 4000000 in
theorem bl_X8_goOver_b81 {X : Cx} {F' : Hp} (hX : Md X cX8_goOver RX8 6 (rmd 4) none false none F') (rec21 : Hp → Nat → Int32 → Int32 → Int32 → Int32 → Option Hp) (hrec21 : ∀ (F : Hp) (v0 : Nat) (v1 : Int32) (v2 : Int32) (v3 : Int32) (v4 : Int32), rec21 F v0 v1 v2 v3 v4 = some F' → PW X 0 0 F 21 [(0, .ref v0), (1, .int v1), (2, .int v2), (3, .int v3), (4, .int v4)] []) (F : Hp) (v0 : Nat) (v1 : Int32) (v2 : Int32) (v4 : Int32) (v5 : Int32) (s0 : Int32) (s1 : Int32) (h : g_X8_goOver_b81 rec21 F v0 v1 v2 v4 v5 s0 s1 = some F') : PW X 0 0 F 81 [(0, .ref v0), (1, .int v1), (2, .int v2), (4, .int v4), (5, .int v5)] [.int s1, .int s0] := by
  have hO := hX.1
  unfold g_X8_goOver_b81 at h
  refine pw_iadd hO dX8_goOver_81 ?_
  refine pw_istore_n hO [(3, .int (s0 + s1)), (0, .ref v0), (1, .int v1), (2, .int v2), (4, .int v4), (5, .int v5)] dX8_goOver_82 (by decide) rfl ?_
  refine pw_iload hO dX8_goOver_83 5 rfl ?_
  refine pw_if_ne (tgt := 103) hO dX8_goOver_85 (by decide) h (fun c38 h => ?_) (fun c38 h => ?_)
  · refine pw_sub (lv1 := [(0, .ref v0), (1, .int v1), (2, .int v2), (3, .int (s0 + s1)), (4, .int v4)]) [1, 2, 3, 0, 4] rfl ?_
    exact bl_X8_goOver_b103 hX rec21 hrec21 F v0 v1 v2 ((s0 + s1)) v4 h
  · refine pw_aload_n hO dX8_goOver_88 1 rfl ?_
    refine pw_aload_n hO dX8_goOver_89 1 rfl ?_
    refine pw_getR hO dX8_goOver_90 fl_X8_28 h (fun q39 h => ?_)
    refine pw_aload_n hO dX8_goOver_93 1 rfl ?_
    refine pw_getR hO dX8_goOver_94 fl_X8_25 h (fun q40 h => ?_)
    refine pw_iload hO dX8_goOver_97 4 rfl ?_
    refine pw_iald hO dX8_goOver_99 h (fun x41 h => ?_)
    refine pw_V0 (a := v0) (ci := 8) (as := [.ref q39, .int x41]) (st := []) (d := 3) hO [.int x41, .ref q39, .ref v0] dX8_goOver_100 vl_X8_133 h (fun F1 hg n => ct_X8_doEvent hg) ⟨Nat.le_of_ble_eq_true rfl, Nat.le_of_ble_eq_true rfl⟩ ⟨Nat.zero_le _, Nat.zero_le _⟩ (Nat.le_of_ble_eq_true rfl) (fun _ _ => rfl) rfl (fun F42 h => ?_)
    refine pw_sub (lv1 := [(0, .ref v0), (1, .int v1), (2, .int v2), (3, .int (s0 + s1)), (4, .int v4)]) [1, 2, 3, 0, 4] rfl ?_
    exact bl_X8_goOver_b103 hX rec21 hrec21 F42 v0 v1 v2 ((s0 + s1)) v4 h
def g_X8_goOver_b61 (rec21 : Hp → Nat → Int32 → Int32 → Int32 → Int32 → Option Hp) (F : Hp) (v0 : Nat) (v1 : Int32) (v2 : Int32) (v3 : Int32) (v4 : Int32) (s0 : Int32) : Option Hp := ((gR F v0 8 9).bind fun q35 => ((aI F q35 0 v4).bind fun x36 => (if x36 ≤ 9 then g_X8_goOver_b81 rec21 F v0 v1 v2 v4 s0 v3 0 else g_X8_goOver_b81 rec21 F v0 v1 v2 v4 s0 v3 1)))
set_option maxHeartbeats 4000000 in
theorem bl_X8_goOver_b61 {X : Cx} {F' : Hp} (hX : Md X cX8_goOver RX8 6 (rmd 4) none false none F') (rec21 : Hp → Nat → Int32 → Int32 → Int32 → Int32 → Option Hp) (hrec21 : ∀ (F : Hp) (v0 : Nat) (v1 : Int32) (v2 : Int32) (v3 : Int32) (v4 : Int32), rec21 F v0 v1 v2 v3 v4 = some F' → PW X 0 0 F 21 [(0, .ref v0), (1, .int v1), (2, .int v2), (3, .int v3), (4, .int v4)] []) (F : Hp) (v0 : Nat) (v1 : Int32) (v2 : Int32) (v3 : Int32) (v4 : Int32) (s0 : Int32) (h : g_X8_goOver_b61 rec21 F v0 v1 v2 v3 v4 s0 = some F') : PW X 0 0 F 61 [(0, .ref v0), (1, .int v1), (2, .int v2), (3, .int v3), (4, .int v4)] [.int s0] := by
  have hO := hX.1
  unfold g_X8_goOver_b61 at h
  refine pw_istore hO [(5, .int s0), (0, .ref v0), (1, .int v1), (2, .int v2), (3, .int v3), (4, .int v4)] dX8_goOver_61 (by decide) rfl ?_
  refine pw_iload_n hO dX8_goOver_63 4 rfl ?_
  refine pw_aload_n hO dX8_goOver_64 1 rfl ?_
  refine pw_getR hO dX8_goOver_65 fl_X8_25 h (fun q35 h => ?_)
  refine pw_iload hO dX8_goOver_68 5 rfl ?_
  refine pw_iald hO dX8_goOver_70 h (fun x36 h => ?_)
  refine pw_bipush hO dX8_goOver_71 (v := 9) (by decide) ?_
  refine pw_icmp_le (tgt := 80) hO dX8_goOver_73 (by decide) h (fun c37 h => ?_) (fun c37 h => ?_)
  · refine pw_iconst hO dX8_goOver_80 (v := 0) (by decide) ?_
    refine pw_sub (lv1 := [(0, .ref v0), (1, .int v1), (2, .int v2), (4, .int v4), (5, .int s0)]) [1, 2, 3, 5, 0] rfl ?_
    exact bl_X8_goOver_b81 hX rec21 hrec21 F v0 v1 v2 v4 s0 v3 0 h
  · refine pw_iconst hO dX8_goOver_76 (v := 1) (by decide) ?_
    refine pw_goto (tgt := 81) hO dX8_goOver_77 (by decide) ?_
    refine pw_sub (lv1 := [(0, .ref v0), (1, .int v1), (2, .int v2), (4, .int v4), (5, .int s0)]) [1, 2, 3, 5, 0] rfl ?_
    exact bl_X8_goOver_b81 hX rec21 hrec21 F v0 v1 v2 v4 s0 v3 1 h
def g_X8_goOver_b60 (rec21 : Hp → Nat → Int32 → Int32 → Int32 → Int32 → Option Hp) (F : Hp) (v0 : Nat) (v1 : Int32) (v2 : Int32) (v3 : Int32) (v4 : Int32) : Option Hp := g_X8_goOver_b61 rec21 F v0 v1 v2 v3 v4 0
set_option maxHeartbeats 4000000 in
theorem bl_X8_goOver_b60 {X : Cx} {F' : Hp} (hX : Md X cX8_goOver RX8 6 (rmd 4) none false none F') (rec21 : Hp → Nat → Int32 → Int32 → Int32 → Int32 → Option Hp) (hrec21 : ∀ (F : Hp) (v0 : Nat) (v1 : Int32) (v2 : Int32) (v3 : Int32) (v4 : Int32), rec21 F v0 v1 v2 v3 v4 = some F' → PW X 0 0 F 21 [(0, .ref v0), (1, .int v1), (2, .int v2), (3, .int v3), (4, .int v4)] []) (F : Hp) (v0 : Nat) (v1 : Int32) (v2 : Int32) (v3 : Int32) (v4 : Int32) (h : g_X8_goOver_b60 rec21 F v0 v1 v2 v3 v4 = some F') : PW X 0 0 F 60 [(0, .ref v0), (1, .int v1), (2, .int v2), (3, .int v3), (4, .int v4)] [] := by
  have hO := hX.1
  unfold g_X8_goOver_b60 at h
  refine pw_iconst hO dX8_goOver_60 (v := 0) (by decide) ?_
  refine pw_sub (lv1 := [(0, .ref v0), (1, .int v1), (2, .int v2), (3, .int v3), (4, .int v4)]) [0, 1, 2, 3, 4] rfl ?_
  exact bl_X8_goOver_b61 hX rec21 hrec21 F v0 v1 v2 v3 v4 0 h
def g_X8_goOver_b21 : Nat → Hp → Nat → Int32 → Int32 → Int32 → Int32 → Option Hp
  | 0, _, _, _, _, _, _ => none
  | n + 1, F, v0, v1, v2, v3, v4 => ((gI F v0 8 10).bind fun x6 => (if x6 ≤ v4 then (bnd2 (g_X8_has F v1 2) fun x9 F8 => (if x9 = 0 then ((gR F8 v0 8 11).bind fun q11 => (bnd2 (g_X8_isEmpty F8 q11) fun x13 F12 => g_X8_goOver_b134 F12 v0 v1 x13)) else ((gR F8 v0 8 11).bind fun q29 => (bnd2 (g_X8_isQuiet F8 q29) fun x31 F30 => g_X8_goOver_b134 F30 v0 v1 x31)))) else ((gR F v0 8 9).bind fun q32 => ((aI F q32 0 v4).bind fun x33 => (if x33 ≤ 9 then g_X8_goOver_b60 (g_X8_goOver_b21 n) F v0 v1 v2 v3 v4 else (if 6 ≤ v3 then g_X8_goOver_b60 (g_X8_goOver_b21 n) F v0 v1 v2 v3 v4 else (bnd2 (g_X8_has F v2 v3) fun x46 F45 => (if x46 = 0 then g_X8_goOver_b60 (g_X8_goOver_b21 n) F45 v0 v1 v2 v3 v4 else g_X8_goOver_b61 (g_X8_goOver_b21 n) F45 v0 v1 v2 v3 v4 1))))))))
set_option maxHeartbeats 4000000 in
theorem bl_X8_goOver_b21 {X : Cx} {F' : Hp} (hX : Md X cX8_goOver RX8 6 (rmd 4) none false none F') : ∀ (n : Nat) (F : Hp) (v0 : Nat) (v1 : Int32) (v2 : Int32) (v3 : Int32) (v4 : Int32), g_X8_goOver_b21 n F v0 v1 v2 v3 v4 = some F' → PW X 0 0 F 21 [(0, .ref v0), (1, .int v1), (2, .int v2), (3, .int v3), (4, .int v4)] [] := by
  have hO := hX.1
  intro n
  induction n with
  | zero => intro F v0 v1 v2 v3 v4 h; rw [g_X8_goOver_b21] at h; cases h
  | succ n ih =>
    intro F v0 v1 v2 v3 v4 h
    rw [g_X8_goOver_b21] at h
    refine pw_iload hO dX8_goOver_21 4 rfl ?_
    refine pw_aload_n hO dX8_goOver_23 0 rfl ?_
    refine pw_getI hO dX8_goOver_24 fl_X8_130 h (fun x6 h => ?_)
    refine pw_icmp_ge (tgt := 109) hO dX8_goOver_27 (by decide) h (fun c7 h => ?_) (fun c7 h => ?_)
    · refine pw_iload_n hO dX8_goOver_109 1 rfl ?_
      refine pw_iconst hO dX8_goOver_110 (v := 2) (by decide) ?_
      refine pw_SI (as := [.int v1, .int 2]) (st := []) (d := 0) hO [.int 2, .int v1] dX8_goOver_111 sl_X8_69 h (fun r F1 hg n => ct_X8_has hg) ⟨Nat.le_of_ble_eq_true rfl, Nat.le_of_ble_eq_true rfl⟩ ⟨Nat.zero_le _, Nat.zero_le _⟩ (Nat.le_of_ble_eq_true rfl) (fun _ _ => rfl) rfl (fun x9 F8 h => ?_)
      refine pw_if_eq (tgt := 127) hO dX8_goOver_114 (by decide) h (fun c10 h => ?_) (fun c10 h => ?_)
      · refine pw_aload_n hO dX8_goOver_127 0 rfl ?_
        refine pw_getR hO dX8_goOver_128 fl_X8_28 h (fun q11 h => ?_)
        refine pw_SI (as := [.ref q11]) (st := []) (d := 1) hO [.ref q11] dX8_goOver_131 sl_X8_77 h (fun r F1 hg n => ct_X8_isEmpty hg) ⟨Nat.le_of_ble_eq_true rfl, Nat.le_of_ble_eq_true rfl⟩ ⟨Nat.zero_le _, Nat.zero_le _⟩ (Nat.le_of_ble_eq_true rfl) (fun _ _ => rfl) rfl (fun x13 F12 h => ?_)
        refine pw_sub (lv1 := [(0, .ref v0), (1, .int v1)]) [0, 1] rfl ?_
        exact bl_X8_goOver_b134 hX F12 v0 v1 x13 h
      · refine pw_aload_n hO dX8_goOver_117 0 rfl ?_
        refine pw_getR hO dX8_goOver_118 fl_X8_28 h (fun q29 h => ?_)
        refine pw_SI (as := [.ref q29]) (st := []) (d := 2) hO [.ref q29] dX8_goOver_121 sl_X8_93 h (fun r F1 hg n => ct_X8_isQuiet hg) ⟨Nat.le_of_ble_eq_true rfl, Nat.le_of_ble_eq_true rfl⟩ ⟨Nat.zero_le _, Nat.zero_le _⟩ (Nat.le_of_ble_eq_true rfl) (fun _ _ => rfl) rfl (fun x31 F30 h => ?_)
        refine pw_goto (tgt := 134) hO dX8_goOver_124 (by decide) ?_
        refine pw_sub (lv1 := [(0, .ref v0), (1, .int v1)]) [0, 1] rfl ?_
        exact bl_X8_goOver_b134 hX F30 v0 v1 x31 h
    · refine pw_aload_n hO dX8_goOver_30 0 rfl ?_
      refine pw_getR hO dX8_goOver_31 fl_X8_25 h (fun q32 h => ?_)
      refine pw_iload hO dX8_goOver_34 4 rfl ?_
      refine pw_iald hO dX8_goOver_36 h (fun x33 h => ?_)
      refine pw_bipush hO dX8_goOver_37 (v := 9) (by decide) ?_
      refine pw_icmp_le (tgt := 60) hO dX8_goOver_39 (by decide) h (fun c34 h => ?_) (fun c34 h => ?_)
      · refine pw_sub (lv1 := [(0, .ref v0), (1, .int v1), (2, .int v2), (3, .int v3), (4, .int v4)]) [0, 1, 2, 3, 4] rfl ?_
        exact bl_X8_goOver_b60 hX (g_X8_goOver_b21 n) ih F v0 v1 v2 v3 v4 h
      · refine pw_iload_n hO dX8_goOver_42 3 rfl ?_
        refine pw_bipush hO dX8_goOver_43 (v := 6) (by decide) ?_
        refine pw_icmp_ge (tgt := 60) hO dX8_goOver_45 (by decide) h (fun c44 h => ?_) (fun c44 h => ?_)
        · refine pw_sub (lv1 := [(0, .ref v0), (1, .int v1), (2, .int v2), (3, .int v3), (4, .int v4)]) [0, 1, 2, 3, 4] rfl ?_
          exact bl_X8_goOver_b60 hX (g_X8_goOver_b21 n) ih F v0 v1 v2 v3 v4 h
        · refine pw_iload_n hO dX8_goOver_48 2 rfl ?_
          refine pw_iload_n hO dX8_goOver_49 3 rfl ?_
          refine pw_SI (as := [.int v2, .int v3]) (st := []) (d := 0) hO [.int v3, .int v2] dX8_goOver_50 sl_X8_69 h (fun r F1 hg n => ct_X8_has hg) ⟨Nat.le_of_ble_eq_true rfl, Nat.le_of_ble_eq_true rfl⟩ ⟨Nat.zero_le _, Nat.zero_le _⟩ (Nat.le_of_ble_eq_true rfl) (fun _ _ => rfl) rfl (fun x46 F45 h => ?_)
          refine pw_if_eq (tgt := 60) hO dX8_goOver_53 (by decide) h (fun c47 h => ?_) (fun c47 h => ?_)
          · refine pw_sub (lv1 := [(0, .ref v0), (1, .int v1), (2, .int v2), (3, .int v3), (4, .int v4)]) [0, 1, 2, 3, 4] rfl ?_
            exact bl_X8_goOver_b60 hX (g_X8_goOver_b21 n) ih F45 v0 v1 v2 v3 v4 h
          · refine pw_iconst hO dX8_goOver_56 (v := 1) (by decide) ?_
            refine pw_goto (tgt := 61) hO dX8_goOver_57 (by decide) ?_
            refine pw_sub (lv1 := [(0, .ref v0), (1, .int v1), (2, .int v2), (3, .int v3), (4, .int v4)]) [0, 1, 2, 3, 4] rfl ?_
            exact bl_X8_goOver_b61 hX (g_X8_goOver_b21 n) ih F45 v0 v1 v2 v3 v4 1 h
def g_X8_goOver (F : Hp) (a0 : Nat) (a1 : Int32) (a2 : Int32) : Option Hp := ((pV F a0 8 21 (.int a1)).bind fun F1 => ((gR F1 a0 8 8).bind fun q2 => ((gR F1 a0 8 11).bind fun q3 => ((g_X8_lay F1 q2 q3).bind fun F4 => g_X8_goOver_b21 gF F4 a0 a1 a2 0 0))))
set_option maxHeartbeats 4000000 in
theorem bl_X8_goOver {X : Cx} {F' : Hp} (hX : Md X cX8_goOver RX8 6 (rmd 4) none false none F') (F : Hp) (a0 : Nat) (a1 : Int32) (a2 : Int32) (h : g_X8_goOver F a0 a1 a2 = some F') : PW X 0 0 F 0 [(0, .ref a0), (1, .int a1), (2, .int a2)] [] := by
  have hO := hX.1
  unfold g_X8_goOver at h
  refine pw_aload_n hO dX8_goOver_0 0 rfl ?_
  refine pw_iload_n hO dX8_goOver_1 1 rfl ?_
  refine pw_putI hO dX8_goOver_2 fp_X8_50 h (fun F1 h => ?_)
  refine pw_aload_n hO dX8_goOver_5 0 rfl ?_
  refine pw_getR hO dX8_goOver_6 fl_X8_22 h (fun q2 h => ?_)
  refine pw_aload_n hO dX8_goOver_9 0 rfl ?_
  refine pw_getR hO dX8_goOver_10 fl_X8_28 h (fun q3 h => ?_)
  refine pw_S0 (as := [.ref q2, .ref q3]) (st := []) (d := 0) hO [.ref q3, .ref q2] dX8_goOver_13 sl_X8_89 h (fun F1 hg n => ct_X8_lay hg) ⟨Nat.le_of_ble_eq_true rfl, Nat.le_of_ble_eq_true rfl⟩ ⟨Nat.zero_le _, Nat.zero_le _⟩ (Nat.le_of_ble_eq_true rfl) (fun _ _ => rfl) rfl (fun F4 h => ?_)
  refine pw_iconst hO dX8_goOver_16 (v := 0) (by decide) ?_
  refine pw_istore_n hO [(3, .int 0), (0, .ref a0), (1, .int a1), (2, .int a2)] dX8_goOver_17 (by decide) rfl ?_
  refine pw_iconst hO dX8_goOver_18 (v := 0) (by decide) ?_
  refine pw_istore hO [(4, .int 0), (3, .int 0), (0, .ref a0), (1, .int a1), (2, .int a2)] dX8_goOver_19 (by decide) rfl ?_
  refine pw_sub (lv1 := [(0, .ref a0), (1, .int a1), (2, .int a2), (3, .int 0), (4, .int 0)]) [2, 3, 4, 1, 0] rfl ?_
  exact bl_X8_goOver_b21 hX gF F4 a0 a1 a2 0 0 h
theorem ct_X8_goOver {n : Nat} {F : Hp} {a0 : Nat} {a1 : Int32} {a2 : Int32} {F' : Hp} (h : g_X8_goOver F a0 a1 a2 = some F') : CT yX8_goOver cX8_goOver 6 none (rmd 4) n F [.ref a0, .int a1, .int a2] none F' :=
  ct_intro (own := RX8) (nm := false) (by decide) rfl (fun h => by cases h) (Nat.le_of_ble_eq_true rfl) (fun X hn hX => bl_X8_goOver hX F a0 a1 a2 h)
def g_X8_pricePlay (F : Hp) (a0 : Nat) : Option (Int32 × Hp) := (ckO F a0 8 ((g_X8_goOver F a0 7 0).bind fun F1 => ((gR F1 a0 8 11).bind fun q3 => ((aI F1 q3 0 4).bind fun x4 => ((gR F1 a0 8 11).bind fun q5 => ((aI F1 q5 0 6).bind fun x6 => ((gR F1 a0 8 11).bind fun q7 => ((aI F1 q7 0 8).bind fun x8 => some (((x4 + x6) + (20 * x8)), F1)))))))))
set_option maxHeartbeats 4000000 in
theorem bl_X8_pricePlay {X : Cx} {rx : Int32} {F' : Hp} (hX : Md X cX8_pricePlay RX8 1 (rmd 5) (some FieldType.int) false (some (.int rx)) F') (F : Hp) (a0 : Nat) (h : g_X8_pricePlay F a0 = some (rx, F')) : PW X 0 0 F 0 [(0, .ref a0)] [] := by
  have hO := hX.1
  unfold g_X8_pricePlay at h
  refine pw_aload_n hO dX8_pricePlay_0 0 rfl ?_
  refine pw_bipush hO dX8_pricePlay_1 (v := 7) (by decide) ?_
  refine pw_iconst hO dX8_pricePlay_3 (v := 0) (by decide) ?_
  refine pw_V0 (a := a0) (ci := 8) (as := [.int 7, .int 0]) (st := []) (d := 4) hO [.int 0, .int 7, .ref a0] dX8_pricePlay_4 vl_X8_167 h (fun F1 hg n => ct_X8_goOver hg) ⟨Nat.le_of_ble_eq_true rfl, Nat.le_of_ble_eq_true rfl⟩ ⟨Nat.zero_le _, Nat.zero_le _⟩ (Nat.le_of_ble_eq_true rfl) (fun _ _ => rfl) rfl (fun F1 h => ?_)
  refine pw_aload_n hO dX8_pricePlay_7 0 rfl ?_
  refine pw_getR hO dX8_pricePlay_8 fl_X8_28 h (fun q3 h => ?_)
  refine pw_iconst hO dX8_pricePlay_11 (v := 4) (by decide) ?_
  refine pw_iald hO dX8_pricePlay_12 h (fun x4 h => ?_)
  refine pw_aload_n hO dX8_pricePlay_13 0 rfl ?_
  refine pw_getR hO dX8_pricePlay_14 fl_X8_28 h (fun q5 h => ?_)
  refine pw_bipush hO dX8_pricePlay_17 (v := 6) (by decide) ?_
  refine pw_iald hO dX8_pricePlay_19 h (fun x6 h => ?_)
  refine pw_iadd hO dX8_pricePlay_20 ?_
  refine pw_bipush hO dX8_pricePlay_21 (v := 20) (by decide) ?_
  refine pw_aload_n hO dX8_pricePlay_23 0 rfl ?_
  refine pw_getR hO dX8_pricePlay_24 fl_X8_28 h (fun q7 h => ?_)
  refine pw_bipush hO dX8_pricePlay_27 (v := 8) (by decide) ?_
  refine pw_iald hO dX8_pricePlay_29 h (fun x8 h => ?_)
  refine pw_imul hO dX8_pricePlay_30 ?_
  refine pw_iadd hO dX8_pricePlay_31 ?_
  exact pw_iret hO hX.2 dX8_pricePlay_32 h
theorem ct_X8_pricePlay {n : Nat} {F : Hp} {a0 : Nat} {rx : Int32} {F' : Hp} (h : g_X8_pricePlay F a0 = some (rx, F')) : CT yX8_pricePlay cX8_pricePlay 1 (some FieldType.int) (rmd 5) n F [.ref a0] (some (.int rx)) F' :=
  ct_intro (own := RX8) (nm := false) (by decide) rfl (fun h => by cases h) (Nat.le_of_ble_eq_true rfl) (fun X hn hX => bl_X8_pricePlay hX F a0 h)
def g_X8_best_b96 (rec7 : Hp → Nat → Int32 → Int32 → Int32 → Int32 → Option (Int32 × Hp)) (F : Hp) (v0 : Nat) (v1 : Int32) (v2 : Int32) (v4 : Int32) (s0 : Int32) : Option (Int32 × Hp) := rec7 F v0 v1 v2 s0 ((v4 + 1))
set_option maxHeartbeats 4000000 in
theorem bl_X8_best_b96 {X : Cx} {rx : Int32} {F' : Hp} (hX : Md X cX8_best RX8 7 (rmd 6) (some FieldType.int) false (some (.int rx)) F') (rec7 : Hp → Nat → Int32 → Int32 → Int32 → Int32 → Option (Int32 × Hp)) (hrec7 : ∀ (F : Hp) (v0 : Nat) (v1 : Int32) (v2 : Int32) (v3 : Int32) (v4 : Int32), rec7 F v0 v1 v2 v3 v4 = some (rx, F') → PW X 0 0 F 7 [(0, .ref v0), (1, .int v1), (2, .int v2), (3, .int v3), (4, .int v4)] []) (F : Hp) (v0 : Nat) (v1 : Int32) (v2 : Int32) (v4 : Int32) (s0 : Int32) (h : g_X8_best_b96 rec7 F v0 v1 v2 v4 s0 = some (rx, F')) : PW X 0 0 F 96 [(0, .ref v0), (1, .int v1), (2, .int v2), (4, .int v4)] [.int s0] := by
  have hO := hX.1
  unfold g_X8_best_b96 at h
  refine pw_istore_n hO [(3, .int s0), (0, .ref v0), (1, .int v1), (2, .int v2), (4, .int v4)] dX8_best_96 (by decide) rfl ?_
  refine pw_iinc hO [(4, .int (v4 + 1)), (3, .int s0), (0, .ref v0), (1, .int v1), (2, .int v2)] dX8_best_97 4 rfl rfl (by decide) rfl ?_
  refine pw_goto (tgt := 7) hO dX8_best_100 (by decide) ?_
  refine pw_sub (lv1 := [(0, .ref v0), (1, .int v1), (2, .int v2), (3, .int s0), (4, .int (v4 + 1))]) [2, 3, 4, 1, 0] rfl ?_
  exact hrec7 F v0 v1 v2 s0 ((v4 + 1)) h
def g_X8_best_b90 (rec7 : Hp → Nat → Int32 → Int32 → Int32 → Int32 → Option (Int32 × Hp)) (F : Hp) (v0 : Nat) (v1 : Int32) (v2 : Int32) (v4 : Int32) (v6 : Int32) : Option (Int32 × Hp) := g_X8_best_b96 rec7 F v0 v1 v2 v4 v6
set_option maxHeartbeats 4000000 in
theorem bl_X8_best_b90 {X : Cx} {rx : Int32} {F' : Hp} (hX : Md X cX8_best RX8 7 (rmd 6) (some FieldType.int) false (some (.int rx)) F') (rec7 : Hp → Nat → Int32 → Int32 → Int32 → Int32 → Option (Int32 × Hp)) (hrec7 : ∀ (F : Hp) (v0 : Nat) (v1 : Int32) (v2 : Int32) (v3 : Int32) (v4 : Int32), rec7 F v0 v1 v2 v3 v4 = some (rx, F') → PW X 0 0 F 7 [(0, .ref v0), (1, .int v1), (2, .int v2), (3, .int v3), (4, .int v4)] []) (F : Hp) (v0 : Nat) (v1 : Int32) (v2 : Int32) (v4 : Int32) (v6 : Int32) (h : g_X8_best_b90 rec7 F v0 v1 v2 v4 v6 = some (rx, F')) : PW X 0 0 F 90 [(0, .ref v0), (1, .int v1), (2, .int v2), (4, .int v4), (6, .int v6)] [] := by
  have hO := hX.1
  unfold g_X8_best_b90 at h
  refine pw_iload hO dX8_best_90 4 rfl ?_
  refine pw_goto (tgt := 96) hO dX8_best_92 (by decide) ?_
  refine pw_sub (lv1 := [(0, .ref v0), (1, .int v1), (2, .int v2), (4, .int v4)]) [0, 1, 2, 3] rfl ?_
  exact bl_X8_best_b96 hX rec7 hrec7 F v0 v1 v2 v4 v6 h
def g_X8_best_b77 (rec7 : Hp → Nat → Int32 → Int32 → Int32 → Int32 → Option (Int32 × Hp)) (F : Hp) (v0 : Nat) (v1 : Int32) (v3 : Int32) (v4 : Int32) (v6 : Int32) (s0 : Int32) : Option (Int32 × Hp) := (if v4 = 1 then g_X8_best_b90 rec7 F v0 v1 s0 v4 v6 else (if v3 ≤ v6 then g_X8_best_b96 rec7 F v0 v1 s0 v4 v3 else g_X8_best_b90 rec7 F v0 v1 s0 v4 v6))
set_option maxHeartbeats 4000000 in
theorem bl_X8_best_b77 {X : Cx} {rx : Int32} {F' : Hp} (hX : Md X cX8_best RX8 7 (rmd 6) (some FieldType.int) false (some (.int rx)) F') (rec7 : Hp → Nat → Int32 → Int32 → Int32 → Int32 → Option (Int32 × Hp)) (hrec7 : ∀ (F : Hp) (v0 : Nat) (v1 : Int32) (v2 : Int32) (v3 : Int32) (v4 : Int32), rec7 F v0 v1 v2 v3 v4 = some (rx, F') → PW X 0 0 F 7 [(0, .ref v0), (1, .int v1), (2, .int v2), (3, .int v3), (4, .int v4)] []) (F : Hp) (v0 : Nat) (v1 : Int32) (v3 : Int32) (v4 : Int32) (v6 : Int32) (s0 : Int32) (h : g_X8_best_b77 rec7 F v0 v1 v3 v4 v6 s0 = some (rx, F')) : PW X 0 0 F 77 [(0, .ref v0), (1, .int v1), (3, .int v3), (4, .int v4), (6, .int v6)] [.int s0] := by
  have hO := hX.1
  unfold g_X8_best_b77 at h
  refine pw_istore_n hO [(2, .int s0), (0, .ref v0), (1, .int v1), (3, .int v3), (4, .int v4), (6, .int v6)] dX8_best_77 (by decide) rfl ?_
  refine pw_iload hO dX8_best_78 4 rfl ?_
  refine pw_iconst hO dX8_best_80 (v := 1) (by decide) ?_
  refine pw_icmp_eq (tgt := 90) hO dX8_best_81 (by decide) h (fun c17 h => ?_) (fun c17 h => ?_)
  · refine pw_sub (lv1 := [(0, .ref v0), (1, .int v1), (2, .int s0), (4, .int v4), (6, .int v6)]) [1, 2, 0, 4, 5] rfl ?_
    exact bl_X8_best_b90 hX rec7 hrec7 F v0 v1 s0 v4 v6 h
  · refine pw_iload hO dX8_best_84 5 rfl ?_
    refine pw_iload_n hO dX8_best_86 3 rfl ?_
    refine pw_icmp_ge (tgt := 95) hO dX8_best_87 (by decide) h (fun c18 h => ?_) (fun c18 h => ?_)
    · refine pw_iload_n hO dX8_best_95 3 rfl ?_
      refine pw_sub (lv1 := [(0, .ref v0), (1, .int v1), (2, .int s0), (4, .int v4)]) [1, 2, 0, 4] rfl ?_
      exact bl_X8_best_b96 hX rec7 hrec7 F v0 v1 s0 v4 v3 h
    · refine pw_sub (lv1 := [(0, .ref v0), (1, .int v1), (2, .int s0), (4, .int v4), (6, .int v6)]) [1, 2, 0, 4, 5] rfl ?_
      exact bl_X8_best_b90 hX rec7 hrec7 F v0 v1 s0 v4 v6 h
def g_X8_best_b71 (rec7 : Hp → Nat → Int32 → Int32 → Int32 → Int32 → Option (Int32 × Hp)) (F : Hp) (v0 : Nat) (v1 : Int32) (v3 : Int32) (v4 : Int32) (v6 : Int32) : Option (Int32 × Hp) := g_X8_best_b77 rec7 F v0 v1 v3 v4 v6 v4
set_option maxHeartbeats 4000000 in
theorem bl_X8_best_b71 {X : Cx} {rx : Int32} {F' : Hp} (hX : Md X cX8_best RX8 7 (rmd 6) (some FieldType.int) false (some (.int rx)) F') (rec7 : Hp → Nat → Int32 → Int32 → Int32 → Int32 → Option (Int32 × Hp)) (hrec7 : ∀ (F : Hp) (v0 : Nat) (v1 : Int32) (v2 : Int32) (v3 : Int32) (v4 : Int32), rec7 F v0 v1 v2 v3 v4 = some (rx, F') → PW X 0 0 F 7 [(0, .ref v0), (1, .int v1), (2, .int v2), (3, .int v3), (4, .int v4)] []) (F : Hp) (v0 : Nat) (v1 : Int32) (v3 : Int32) (v4 : Int32) (v6 : Int32) (h : g_X8_best_b71 rec7 F v0 v1 v3 v4 v6 = some (rx, F')) : PW X 0 0 F 71 [(0, .ref v0), (1, .int v1), (3, .int v3), (4, .int v4), (6, .int v6)] [] := by
  have hO := hX.1
  unfold g_X8_best_b71 at h
  refine pw_iload hO dX8_best_71 3 rfl ?_
  refine pw_goto (tgt := 77) hO dX8_best_73 (by decide) ?_
  refine pw_sub (lv1 := [(0, .ref v0), (1, .int v1), (3, .int v3), (4, .int v4), (6, .int v6)]) [0, 1, 2, 3, 4] rfl ?_
  exact bl_X8_best_b77 hX rec7 hrec7 F v0 v1 v3 v4 v6 v4 h
def g_X8_best_b7 : Nat → Hp → Nat → Int32 → Int32 → Int32 → Int32 → Option (Int32 × Hp)
  | 0, _, _, _, _, _, _ => none
  | n + 1, F, v0, v1, v2, v3, v4 => (if 10 ≤ v4 then some (v2, F) else ((gR F v0 8 8).bind fun q2 => (bnd2 (g_X8_at F v1) fun x4 F3 => ((aI F3 q2 0 (x4 + 1)).bind fun x5 => ((gR F3 v0 8 8).bind fun q6 => (bnd2 (g_X8_at F3 v1) fun x8 F7 => ((sI F7 q6 0 (x8 + 1) v4).bind fun F9 => (ckO F9 v0 8 (bnd2 (g_X8_pricePlay F9 v0) fun x11 F10 => ((gR F10 v0 8 8).bind fun q12 => (bnd2 (g_X8_at F10 v1) fun x14 F13 => ((sI F13 q12 0 (x14 + 1) x5).bind fun F15 => (if v4 = 1 then g_X8_best_b71 (g_X8_best_b7 n) F15 v0 v1 v3 v4 x11 else (if v3 ≤ x11 then g_X8_best_b77 (g_X8_best_b7 n) F15 v0 v1 v3 v4 x11 v2 else g_X8_best_b71 (g_X8_best_b7 n) F15 v0 v1 v3 v4 x11))))))))))))))
set_option maxHeartbeats 4000000 in
theorem bl_X8_best_b7 {X : Cx} {rx : Int32} {F' : Hp} (hX : Md X cX8_best RX8 7 (rmd 6) (some FieldType.int) false (some (.int rx)) F') : ∀ (n : Nat) (F : Hp) (v0 : Nat) (v1 : Int32) (v2 : Int32) (v3 : Int32) (v4 : Int32), g_X8_best_b7 n F v0 v1 v2 v3 v4 = some (rx, F') → PW X 0 0 F 7 [(0, .ref v0), (1, .int v1), (2, .int v2), (3, .int v3), (4, .int v4)] [] := by
  have hO := hX.1
  intro n
  induction n with
  | zero => intro F v0 v1 v2 v3 v4 h; rw [g_X8_best_b7] at h; cases h
  | succ n ih =>
    intro F v0 v1 v2 v3 v4 h
    rw [g_X8_best_b7] at h
    refine pw_iload hO dX8_best_7 4 rfl ?_
    refine pw_bipush hO dX8_best_9 (v := 10) (by decide) ?_
    refine pw_icmp_ge (tgt := 103) hO dX8_best_11 (by decide) h (fun c1 h => ?_) (fun c1 h => ?_)
    · refine pw_iload_n hO dX8_best_103 2 rfl ?_
      exact pw_iret hO hX.2 dX8_best_104 h
    · refine pw_aload_n hO dX8_best_14 0 rfl ?_
      refine pw_getR hO dX8_best_15 fl_X8_22 h (fun q2 h => ?_)
      refine pw_iload_n hO dX8_best_18 1 rfl ?_
      refine pw_SI (as := [.int v1]) (st := [.ref q2]) (d := 0) hO [.int v1, .ref q2] dX8_best_19 sl_X8_65 h (fun r F1 hg n => ct_X8_at hg) ⟨Nat.le_of_ble_eq_true rfl, Nat.le_of_ble_eq_true rfl⟩ ⟨Nat.zero_le _, Nat.zero_le _⟩ (Nat.le_of_ble_eq_true rfl) (fun _ _ => rfl) rfl (fun x4 F3 h => ?_)
      refine pw_iconst hO dX8_best_22 (v := 1) (by decide) ?_
      refine pw_iadd hO dX8_best_23 ?_
      refine pw_iald hO dX8_best_24 h (fun x5 h => ?_)
      refine pw_istore hO [(5, .int x5), (0, .ref v0), (1, .int v1), (2, .int v2), (3, .int v3), (4, .int v4)] dX8_best_25 (by decide) rfl ?_
      refine pw_aload_n hO dX8_best_27 1 rfl ?_
      refine pw_getR hO dX8_best_28 fl_X8_22 h (fun q6 h => ?_)
      refine pw_iload_n hO dX8_best_31 2 rfl ?_
      refine pw_SI (as := [.int v1]) (st := [.ref q6]) (d := 0) hO [.int v1, .ref q6] dX8_best_32 sl_X8_65 h (fun r F1 hg n => ct_X8_at hg) ⟨Nat.le_of_ble_eq_true rfl, Nat.le_of_ble_eq_true rfl⟩ ⟨Nat.zero_le _, Nat.zero_le _⟩ (Nat.le_of_ble_eq_true rfl) (fun _ _ => rfl) rfl (fun x8 F7 h => ?_)
      refine pw_iconst hO dX8_best_35 (v := 1) (by decide) ?_
      refine pw_iadd hO dX8_best_36 ?_
      refine pw_iload hO dX8_best_37 5 rfl ?_
      refine pw_iast hO dX8_best_39 h (fun F9 h => ?_)
      refine pw_aload_n hO dX8_best_40 1 rfl ?_
      refine pw_VI (a := v0) (ci := 8) (as := []) (st := []) (d := 5) hO [.ref v0] dX8_best_41 vl_X8_146 h (fun r F1 hg n => ct_X8_pricePlay hg) ⟨Nat.le_of_ble_eq_true rfl, Nat.le_of_ble_eq_true rfl⟩ ⟨Nat.zero_le _, Nat.zero_le _⟩ (Nat.le_of_ble_eq_true rfl) (fun _ _ => rfl) rfl (fun x11 F10 h => ?_)
      refine pw_istore hO [(6, .int x11), (5, .int x5), (0, .ref v0), (1, .int v1), (2, .int v2), (3, .int v3), (4, .int v4)] dX8_best_44 (by decide) rfl ?_
      refine pw_aload_n hO dX8_best_46 2 rfl ?_
      refine pw_getR hO dX8_best_47 fl_X8_22 h (fun q12 h => ?_)
      refine pw_iload_n hO dX8_best_50 3 rfl ?_
      refine pw_SI (as := [.int v1]) (st := [.ref q12]) (d := 0) hO [.int v1, .ref q12] dX8_best_51 sl_X8_65 h (fun r F1 hg n => ct_X8_at hg) ⟨Nat.le_of_ble_eq_true rfl, Nat.le_of_ble_eq_true rfl⟩ ⟨Nat.zero_le _, Nat.zero_le _⟩ (Nat.le_of_ble_eq_true rfl) (fun _ _ => rfl) rfl (fun x14 F13 h => ?_)
      refine pw_iconst hO dX8_best_54 (v := 1) (by decide) ?_
      refine pw_iadd hO dX8_best_55 ?_
      refine pw_iload hO dX8_best_56 1 rfl ?_
      refine pw_iast hO dX8_best_58 h (fun F15 h => ?_)
      refine pw_iload hO dX8_best_59 6 rfl ?_
      refine pw_iconst hO dX8_best_61 (v := 1) (by decide) ?_
      refine pw_icmp_eq (tgt := 71) hO dX8_best_62 (by decide) h (fun c16 h => ?_) (fun c16 h => ?_)
      · refine pw_sub (lv1 := [(0, .ref v0), (1, .int v1), (3, .int v3), (4, .int v4), (6, .int x11)]) [2, 3, 5, 6, 0] rfl ?_
        exact bl_X8_best_b71 hX (g_X8_best_b7 n) ih F15 v0 v1 v3 v4 x11 h
      · refine pw_iload hO dX8_best_65 0 rfl ?_
        refine pw_iload_n hO dX8_best_67 5 rfl ?_
        refine pw_icmp_ge (tgt := 76) hO dX8_best_68 (by decide) h (fun c19 h => ?_) (fun c19 h => ?_)
        · refine pw_iload_n hO dX8_best_76 4 rfl ?_
          refine pw_sub (lv1 := [(0, .ref v0), (1, .int v1), (3, .int v3), (4, .int v4), (6, .int x11)]) [2, 3, 5, 6, 0] rfl ?_
          exact bl_X8_best_b77 hX (g_X8_best_b7 n) ih F15 v0 v1 v3 v4 x11 v2 h
        · refine pw_sub (lv1 := [(0, .ref v0), (1, .int v1), (3, .int v3), (4, .int v4), (6, .int x11)]) [2, 3, 5, 6, 0] rfl ?_
          exact bl_X8_best_b71 hX (g_X8_best_b7 n) ih F15 v0 v1 v3 v4 x11 h
def g_X8_best (F : Hp) (a0 : Nat) (a1 : Int32) : Option (Int32 × Hp) := g_X8_best_b7 gF F a0 a1 1 0 1
set_option maxHeartbeats 4000000 in
theorem bl_X8_best {X : Cx} {rx : Int32} {F' : Hp} (hX : Md X cX8_best RX8 7 (rmd 6) (some FieldType.int) false (some (.int rx)) F') (F : Hp) (a0 : Nat) (a1 : Int32) (h : g_X8_best F a0 a1 = some (rx, F')) : PW X 0 0 F 0 [(0, .ref a0), (1, .int a1)] [] := by
  have hO := hX.1
  unfold g_X8_best at h
  refine pw_iconst hO dX8_best_0 (v := 1) (by decide) ?_
  refine pw_istore_n hO [(2, .int 1), (0, .ref a0), (1, .int a1)] dX8_best_1 (by decide) rfl ?_
  refine pw_iconst hO dX8_best_2 (v := 0) (by decide) ?_
  refine pw_istore_n hO [(3, .int 0), (2, .int 1), (0, .ref a0), (1, .int a1)] dX8_best_3 (by decide) rfl ?_
  refine pw_iconst hO dX8_best_4 (v := 1) (by decide) ?_
  refine pw_istore hO [(4, .int 1), (3, .int 0), (2, .int 1), (0, .ref a0), (1, .int a1)] dX8_best_5 (by decide) rfl ?_
  refine pw_sub (lv1 := [(0, .ref a0), (1, .int a1), (2, .int 1), (3, .int 0), (4, .int 1)]) [3, 4, 2, 1, 0] rfl ?_
  exact bl_X8_best_b7 hX gF F a0 a1 1 0 1 h
theorem ct_X8_best {n : Nat} {F : Hp} {a0 : Nat} {a1 : Int32} {rx : Int32} {F' : Hp} (h : g_X8_best F a0 a1 = some (rx, F')) : CT yX8_best cX8_best 7 (some FieldType.int) (rmd 6) n F [.ref a0, .int a1] (some (.int rx)) F' :=
  ct_intro (own := RX8) (nm := false) (by decide) rfl (fun h => by cases h) (Nat.le_of_ble_eq_true rfl) (fun X hn hX => bl_X8_best hX F a0 a1 h)
def g_X8_end (F : Hp) (a0 : Nat) (a1 : Int32) (a2 : Int32) : Option (Int32 × Hp) := ((pV F a0 8 0 (.int 0)).bind fun F1 => (bnd2 (g_X8_noEnd F1 a1) fun x3 F2 => (if x3 = 0 then (bnd2 (g_X8_in F2 (Int32.toInt64 a2) (0 : Int64) (4 : Int64)) fun x6 F5 => (if x6 = 0 then (if a2 = 5 then ((gR F5 a0 8 7).bind fun q12 => (ckO F5 a0 8 (bnd2 (g_X8_isDue F5 a0 q12 a1) fun x14 F13 => (if x14 = 0 then some (0, F13) else some (1, F13))))) else (if a2 = 6 then (ckO F5 a0 8 (bnd2 (g_X8_best F5 a0 a1) fun x11 F10 => some (x11, F10))) else some ((-2), F5))) else ((gR F5 a0 8 7).bind fun q16 => (bnd2 (g_X8_at F5 a1) fun x18 F17 => ((aI F17 q16 0 (x18 + a2)).bind fun x19 => some (x19, F17)))))) else some ((-1), F2))))
set_option maxHeartbeats 4000000 in
theorem bl_X8_end {X : Cx} {rx : Int32} {F' : Hp} (hX : Md X cX8_end RX8 3 (rmd 7) (some FieldType.int) false (some (.int rx)) F') (F : Hp) (a0 : Nat) (a1 : Int32) (a2 : Int32) (h : g_X8_end F a0 a1 a2 = some (rx, F')) : PW X 0 0 F 0 [(0, .ref a0), (1, .int a1), (2, .int a2)] [] := by
  have hO := hX.1
  unfold g_X8_end at h
  refine pw_aload_n hO dX8_end_0 0 rfl ?_
  refine pw_iconst hO dX8_end_1 (v := 0) (by decide) ?_
  refine pw_putI hO dX8_end_2 fp_X8_58 h (fun F1 h => ?_)
  refine pw_iload_n hO dX8_end_5 1 rfl ?_
  refine pw_SI (as := [.int a1]) (st := []) (d := 1) hO [.int a1] dX8_end_6 sl_X8_149 h (fun r F1 hg n => ct_X8_noEnd hg) ⟨Nat.le_of_ble_eq_true rfl, Nat.le_of_ble_eq_true rfl⟩ ⟨Nat.zero_le _, Nat.zero_le _⟩ (Nat.le_of_ble_eq_true rfl) (fun _ _ => rfl) rfl (fun x3 F2 h => ?_)
  refine pw_if_eq (tgt := 14) hO dX8_end_9 (by decide) h (fun c4 h => ?_) (fun c4 h => ?_)
  · refine pw_iload_n hO dX8_end_14 2 rfl ?_
    refine pw_i2l hO dX8_end_15 ?_
    refine pw_lconst hO dX8_end_16 (v := (0 : Int64)) (by decide) ?_
    refine pw_ldc2 hO dX8_end_17 kl_X8_153 ?_
    refine pw_SI (as := [.long (Int32.toInt64 a2), .long (0 : Int64), .long (4 : Int64)]) (st := []) (d := 0) hO [.long (4 : Int64), .long (0 : Int64), .long (Int32.toInt64 a2)] dX8_end_20 sl_X8_61 h (fun r F1 hg n => ct_X8_in hg) ⟨Nat.le_of_ble_eq_true rfl, Nat.le_of_ble_eq_true rfl⟩ ⟨Nat.zero_le _, Nat.zero_le _⟩ (Nat.le_of_ble_eq_true rfl) (fun _ _ => rfl) rfl (fun x6 F5 h => ?_)
    refine pw_if_eq (tgt := 38) hO dX8_end_23 (by decide) h (fun c7 h => ?_) (fun c7 h => ?_)
    · refine pw_iload_n hO dX8_end_38 2 rfl ?_
      refine pw_iconst hO dX8_end_39 (v := 5) (by decide) ?_
      refine pw_icmp_ne (tgt := 63) hO dX8_end_40 (by decide) h (fun c8 h => ?_) (fun c8 h => ?_)
      · refine pw_iload_n hO dX8_end_63 2 rfl ?_
        refine pw_bipush hO dX8_end_64 (v := 6) (by decide) ?_
        refine pw_icmp_ne (tgt := 77) hO dX8_end_66 (by decide) h (fun c9 h => ?_) (fun c9 h => ?_)
        · refine pw_bipush hO dX8_end_77 (v := (-2)) (by decide) ?_
          exact pw_iret hO hX.2 dX8_end_79 h
        · refine pw_aload_n hO dX8_end_69 0 rfl ?_
          refine pw_iload_n hO dX8_end_70 1 rfl ?_
          refine pw_VI (a := a0) (ci := 8) (as := [.int a1]) (st := []) (d := 6) hO [.int a1, .ref a0] dX8_end_71 vl_X8_155 h (fun r F1 hg n => ct_X8_best hg) ⟨Nat.le_of_ble_eq_true rfl, Nat.le_of_ble_eq_true rfl⟩ ⟨Nat.zero_le _, Nat.zero_le _⟩ (Nat.le_of_ble_eq_true rfl) (fun _ _ => rfl) rfl (fun x11 F10 h => ?_)
          refine pw_goto (tgt := 79) hO dX8_end_74 (by decide) ?_
          exact pw_iret hO hX.2 dX8_end_79 h
      · refine pw_aload_n hO dX8_end_43 0 rfl ?_
        refine pw_aload_n hO dX8_end_44 0 rfl ?_
        refine pw_getR hO dX8_end_45 fl_X8_19 h (fun q12 h => ?_)
        refine pw_iload_n hO dX8_end_48 1 rfl ?_
        refine pw_VI (a := a0) (ci := 8) (as := [.ref q12, .int a1]) (st := []) (d := 1) hO [.int a1, .ref q12, .ref a0] dX8_end_49 vl_X8_81 h (fun r F1 hg n => ct_X8_isDue hg) ⟨Nat.le_of_ble_eq_true rfl, Nat.le_of_ble_eq_true rfl⟩ ⟨Nat.zero_le _, Nat.zero_le _⟩ (Nat.le_of_ble_eq_true rfl) (fun _ _ => rfl) rfl (fun x14 F13 h => ?_)
        refine pw_if_eq (tgt := 59) hO dX8_end_52 (by decide) h (fun c15 h => ?_) (fun c15 h => ?_)
        · refine pw_iconst hO dX8_end_59 (v := 0) (by decide) ?_
          refine pw_goto (tgt := 79) hO dX8_end_60 (by decide) ?_
          exact pw_iret hO hX.2 dX8_end_79 h
        · refine pw_iconst hO dX8_end_55 (v := 1) (by decide) ?_
          refine pw_goto (tgt := 79) hO dX8_end_56 (by decide) ?_
          exact pw_iret hO hX.2 dX8_end_79 h
    · refine pw_aload_n hO dX8_end_26 0 rfl ?_
      refine pw_getR hO dX8_end_27 fl_X8_19 h (fun q16 h => ?_)
      refine pw_iload_n hO dX8_end_30 1 rfl ?_
      refine pw_SI (as := [.int a1]) (st := [.ref q16]) (d := 0) hO [.int a1, .ref q16] dX8_end_31 sl_X8_65 h (fun r F1 hg n => ct_X8_at hg) ⟨Nat.le_of_ble_eq_true rfl, Nat.le_of_ble_eq_true rfl⟩ ⟨Nat.zero_le _, Nat.zero_le _⟩ (Nat.le_of_ble_eq_true rfl) (fun _ _ => rfl) rfl (fun x18 F17 h => ?_)
      refine pw_iload_n hO dX8_end_34 2 rfl ?_
      refine pw_iadd hO dX8_end_35 ?_
      refine pw_iald hO dX8_end_36 h (fun x19 h => ?_)
      exact pw_iret hO hX.2 dX8_end_37 h
  · refine pw_iconst hO dX8_end_12 (v := (-1)) (by decide) ?_
    exact pw_iret hO hX.2 dX8_end_13 h
theorem ct_X8_end {n : Nat} {F : Hp} {a0 : Nat} {a1 : Int32} {a2 : Int32} {rx : Int32} {F' : Hp} (h : g_X8_end F a0 a1 a2 = some (rx, F')) : CT yX8_end cX8_end 3 (some FieldType.int) (rmd 7) n F [.ref a0, .int a1, .int a2] (some (.int rx)) F' :=
  ct_intro (own := RX8) (nm := false) (by decide) rfl (fun h => by cases h) (Nat.le_of_ble_eq_true rfl) (fun X hn hX => bl_X8_end hX F a0 a1 a2 h)
def g_X8_held (F : Hp) (a0 : Nat) (a1 : Int32) (a2 : Int32) : Option (Int32 × Hp) := ((pV F a0 8 0 (.int 0)).bind fun F1 => (bnd2 (g_X8_noEnd F1 a1) fun x3 F2 => (if x3 = 0 then ((gR F2 a0 8 7).bind fun q5 => (bnd2 (g_X8_at F2 a1) fun x7 F6 => ((aI F6 q5 0 (x7 + 4)).bind fun x8 => (bnd2 (g_X8_in F6 (Int32.toInt64 a2) (0 : Int64) (Int32.toInt64 (x8 - 1))) fun x10 F9 => (if x10 = 0 then some ((-9), F9) else ((gR F9 a0 8 7).bind fun q12 => (bnd2 (g_X8_at F9 a1) fun x14 F13 => ((aI F13 q12 0 ((x14 + 5) + a2)).bind fun x15 => some (x15, F13))))))))) else some ((-1), F2))))
set_option maxHeartbeats 4000000 in
theorem bl_X8_held {X : Cx} {rx : Int32} {F' : Hp} (hX : Md X cX8_held RX8 3 (rmd 2) (some FieldType.int) false (some (.int rx)) F') (F : Hp) (a0 : Nat) (a1 : Int32) (a2 : Int32) (h : g_X8_held F a0 a1 a2 = some (rx, F')) : PW X 0 0 F 0 [(0, .ref a0), (1, .int a1), (2, .int a2)] [] := by
  have hO := hX.1
  unfold g_X8_held at h
  refine pw_aload_n hO dX8_held_0 0 rfl ?_
  refine pw_iconst hO dX8_held_1 (v := 0) (by decide) ?_
  refine pw_putI hO dX8_held_2 fp_X8_58 h (fun F1 h => ?_)
  refine pw_iload_n hO dX8_held_5 1 rfl ?_
  refine pw_SI (as := [.int a1]) (st := []) (d := 1) hO [.int a1] dX8_held_6 sl_X8_149 h (fun r F1 hg n => ct_X8_noEnd hg) ⟨Nat.le_of_ble_eq_true rfl, Nat.le_of_ble_eq_true rfl⟩ ⟨Nat.zero_le _, Nat.zero_le _⟩ (Nat.le_of_ble_eq_true rfl) (fun _ _ => rfl) rfl (fun x3 F2 h => ?_)
  refine pw_if_eq (tgt := 14) hO dX8_held_9 (by decide) h (fun c4 h => ?_) (fun c4 h => ?_)
  · refine pw_iload_n hO dX8_held_14 2 rfl ?_
    refine pw_i2l hO dX8_held_15 ?_
    refine pw_lconst hO dX8_held_16 (v := (0 : Int64)) (by decide) ?_
    refine pw_aload_n hO dX8_held_17 0 rfl ?_
    refine pw_getR hO dX8_held_18 fl_X8_19 h (fun q5 h => ?_)
    refine pw_iload_n hO dX8_held_21 1 rfl ?_
    refine pw_SI (as := [.int a1]) (st := [.ref q5, .long (0 : Int64), .long (Int32.toInt64 a2)]) (d := 0) hO [.int a1, .ref q5, .long (0 : Int64), .long (Int32.toInt64 a2)] dX8_held_22 sl_X8_65 h (fun r F1 hg n => ct_X8_at hg) ⟨Nat.le_of_ble_eq_true rfl, Nat.le_of_ble_eq_true rfl⟩ ⟨Nat.zero_le _, Nat.zero_le _⟩ (Nat.le_of_ble_eq_true rfl) (fun _ _ => rfl) rfl (fun x7 F6 h => ?_)
    refine pw_iconst hO dX8_held_25 (v := 4) (by decide) ?_
    refine pw_iadd hO dX8_held_26 ?_
    refine pw_iald hO dX8_held_27 h (fun x8 h => ?_)
    refine pw_iconst hO dX8_held_28 (v := 1) (by decide) ?_
    refine pw_isub hO dX8_held_29 ?_
    refine pw_i2l hO dX8_held_30 ?_
    refine pw_SI (as := [.long (Int32.toInt64 a2), .long (0 : Int64), .long (Int32.toInt64 (x8 - 1))]) (st := []) (d := 0) hO [.long (Int32.toInt64 (x8 - 1)), .long (0 : Int64), .long (Int32.toInt64 a2)] dX8_held_31 sl_X8_61 h (fun r F1 hg n => ct_X8_in hg) ⟨Nat.le_of_ble_eq_true rfl, Nat.le_of_ble_eq_true rfl⟩ ⟨Nat.zero_le _, Nat.zero_le _⟩ (Nat.le_of_ble_eq_true rfl) (fun _ _ => rfl) rfl (fun x10 F9 h => ?_)
    refine pw_if_eq (tgt := 53) hO dX8_held_34 (by decide) h (fun c11 h => ?_) (fun c11 h => ?_)
    · refine pw_bipush hO dX8_held_53 (v := (-9)) (by decide) ?_
      exact pw_iret hO hX.2 dX8_held_55 h
    · refine pw_aload_n hO dX8_held_37 0 rfl ?_
      refine pw_getR hO dX8_held_38 fl_X8_19 h (fun q12 h => ?_)
      refine pw_iload_n hO dX8_held_41 1 rfl ?_
      refine pw_SI (as := [.int a1]) (st := [.ref q12]) (d := 0) hO [.int a1, .ref q12] dX8_held_42 sl_X8_65 h (fun r F1 hg n => ct_X8_at hg) ⟨Nat.le_of_ble_eq_true rfl, Nat.le_of_ble_eq_true rfl⟩ ⟨Nat.zero_le _, Nat.zero_le _⟩ (Nat.le_of_ble_eq_true rfl) (fun _ _ => rfl) rfl (fun x14 F13 h => ?_)
      refine pw_iconst hO dX8_held_45 (v := 5) (by decide) ?_
      refine pw_iadd hO dX8_held_46 ?_
      refine pw_iload_n hO dX8_held_47 2 rfl ?_
      refine pw_iadd hO dX8_held_48 ?_
      refine pw_iald hO dX8_held_49 h (fun x15 h => ?_)
      refine pw_goto (tgt := 55) hO dX8_held_50 (by decide) ?_
      exact pw_iret hO hX.2 dX8_held_55 h
  · refine pw_iconst hO dX8_held_12 (v := (-1)) (by decide) ?_
    exact pw_iret hO hX.2 dX8_held_13 h
theorem ct_X8_held {n : Nat} {F : Hp} {a0 : Nat} {a1 : Int32} {a2 : Int32} {rx : Int32} {F' : Hp} (h : g_X8_held F a0 a1 a2 = some (rx, F')) : CT yX8_held cX8_held 3 (some FieldType.int) (rmd 2) n F [.ref a0, .int a1, .int a2] (some (.int rx)) F' :=
  ct_intro (own := RX8) (nm := false) (by decide) rfl (fun h => by cases h) (Nat.le_of_ble_eq_true rfl) (fun X hn hX => bl_X8_held hX F a0 a1 a2 h)
def g_X8_note_b51 : Nat → Hp → Nat → Int32 → Option Hp
  | 0, _, _, _ => none
  | n + 1, F, v0, v1 => (if 39 ≤ v1 then ((gI F v0 8 13).bind fun x4 => ((pV F v0 8 13 (.int (x4 + 1))).bind fun F5 => some F5)) else ((gR F v0 8 12).bind fun q6 => ((gI F v0 8 13).bind fun x7 => ((gR F v0 8 7).bind fun q8 => ((aI F q8 0 v1).bind fun x9 => ((sI F q6 0 ((39 * x7) + v1) x9).bind fun F10 => g_X8_note_b51 n F10 v0 ((v1 + 1))))))))
set_option maxHeartbeats 4000000 in
theorem bl_X8_note_b51 {X : Cx} {F' : Hp} (hX : Md X cX8_note RX8 2 (rmd 0) none false none F') : ∀ (n : Nat) (F : Hp) (v0 : Nat) (v1 : Int32), g_X8_note_b51 n F v0 v1 = some F' → PW X 0 0 F 51 [(0, .ref v0), (1, .int v1)] [] := by
  have hO := hX.1
  intro n
  induction n with
  | zero => intro F v0 v1 h; rw [g_X8_note_b51] at h; cases h
  | succ n ih =>
    intro F v0 v1 h
    rw [g_X8_note_b51] at h
    refine pw_iload_n hO dX8_note_51 1 rfl ?_
    refine pw_bipush hO dX8_note_52 (v := 39) (by decide) ?_
    refine pw_icmp_ge (tgt := 83) hO dX8_note_54 (by decide) h (fun c3 h => ?_) (fun c3 h => ?_)
    · refine pw_aload_n hO dX8_note_83 0 rfl ?_
      refine pw_dup hO dX8_note_84 rfl ?_
      refine pw_getI hO dX8_note_85 fl_X8_136 h (fun x4 h => ?_)
      refine pw_iconst hO dX8_note_88 (v := 1) (by decide) ?_
      refine pw_iadd hO dX8_note_89 ?_
      refine pw_putI hO dX8_note_90 fp_X8_136 h (fun F5 h => ?_)
      exact pw_vret hO hX.2 dX8_note_93 h
    · refine pw_aload_n hO dX8_note_57 0 rfl ?_
      refine pw_getR hO dX8_note_58 fl_X8_31 h (fun q6 h => ?_)
      refine pw_bipush hO dX8_note_61 (v := 39) (by decide) ?_
      refine pw_aload_n hO dX8_note_63 0 rfl ?_
      refine pw_getI hO dX8_note_64 fl_X8_136 h (fun x7 h => ?_)
      refine pw_imul hO dX8_note_67 ?_
      refine pw_iload_n hO dX8_note_68 1 rfl ?_
      refine pw_iadd hO dX8_note_69 ?_
      refine pw_aload_n hO dX8_note_70 0 rfl ?_
      refine pw_getR hO dX8_note_71 fl_X8_19 h (fun q8 h => ?_)
      refine pw_iload_n hO dX8_note_74 1 rfl ?_
      refine pw_iald hO dX8_note_75 h (fun x9 h => ?_)
      refine pw_iast hO dX8_note_76 h (fun F10 h => ?_)
      refine pw_iinc hO [(1, .int (v1 + 1)), (0, .ref v0)] dX8_note_77 1 rfl rfl (by decide) rfl ?_
      refine pw_goto (tgt := 51) hO dX8_note_80 (by decide) ?_
      refine pw_sub (lv1 := [(0, .ref v0), (1, .int (v1 + 1))]) [1, 0] rfl ?_
      exact ih F10 v0 ((v1 + 1)) h
def g_X8_note_b49 (F : Hp) (v0 : Nat) : Option Hp := g_X8_note_b51 gF F v0 0
set_option maxHeartbeats 4000000 in
theorem bl_X8_note_b49 {X : Cx} {F' : Hp} (hX : Md X cX8_note RX8 2 (rmd 0) none false none F') (F : Hp) (v0 : Nat) (h : g_X8_note_b49 F v0 = some F') : PW X 0 0 F 49 [(0, .ref v0)] [] := by
  have hO := hX.1
  unfold g_X8_note_b49 at h
  refine pw_iconst hO dX8_note_49 (v := 0) (by decide) ?_
  refine pw_istore_n hO [(1, .int 0), (0, .ref v0)] dX8_note_50 (by decide) rfl ?_
  refine pw_sub (lv1 := [(0, .ref v0), (1, .int 0)]) [1, 0] rfl ?_
  exact bl_X8_note_b51 hX gF F v0 0 h
def g_X8_note_b11 : Nat → Hp → Nat → Int32 → Option Hp
  | 0, _, _, _ => none
  | n + 1, F, v0, v1 => (if 507 ≤ v1 then ((gI F v0 8 13).bind fun x12 => ((pV F v0 8 13 (.int (x12 - 1))).bind fun F13 => g_X8_note_b49 F13 v0)) else ((gR F v0 8 12).bind fun q14 => ((gR F v0 8 12).bind fun q15 => ((aI F q15 0 (v1 + 39)).bind fun x16 => ((sI F q14 0 v1 x16).bind fun F17 => g_X8_note_b11 n F17 v0 ((v1 + 1)))))))
set_option maxHeartbeats 4000000 in
theorem bl_X8_note_b11 {X : Cx} {F' : Hp} (hX : Md X cX8_note RX8 2 (rmd 0) none false none F') : ∀ (n : Nat) (F : Hp) (v0 : Nat) (v1 : Int32), g_X8_note_b11 n F v0 v1 = some F' → PW X 0 0 F 11 [(0, .ref v0), (1, .int v1)] [] := by
  have hO := hX.1
  intro n
  induction n with
  | zero => intro F v0 v1 h; rw [g_X8_note_b11] at h; cases h
  | succ n ih =>
    intro F v0 v1 h
    rw [g_X8_note_b11] at h
    refine pw_iload_n hO dX8_note_11 1 rfl ?_
    refine pw_sipush hO dX8_note_12 (v := 507) (by decide) ?_
    refine pw_icmp_ge (tgt := 39) hO dX8_note_15 (by decide) h (fun c11 h => ?_) (fun c11 h => ?_)
    · refine pw_aload_n hO dX8_note_39 0 rfl ?_
      refine pw_dup hO dX8_note_40 rfl ?_
      refine pw_getI hO dX8_note_41 fl_X8_136 h (fun x12 h => ?_)
      refine pw_iconst hO dX8_note_44 (v := 1) (by decide) ?_
      refine pw_isub hO dX8_note_45 ?_
      refine pw_putI hO dX8_note_46 fp_X8_136 h (fun F13 h => ?_)
      refine pw_sub (lv1 := [(0, .ref v0)]) [0] rfl ?_
      exact bl_X8_note_b49 hX F13 v0 h
    · refine pw_aload_n hO dX8_note_18 0 rfl ?_
      refine pw_getR hO dX8_note_19 fl_X8_31 h (fun q14 h => ?_)
      refine pw_iload_n hO dX8_note_22 1 rfl ?_
      refine pw_aload_n hO dX8_note_23 0 rfl ?_
      refine pw_getR hO dX8_note_24 fl_X8_31 h (fun q15 h => ?_)
      refine pw_iload_n hO dX8_note_27 1 rfl ?_
      refine pw_bipush hO dX8_note_28 (v := 39) (by decide) ?_
      refine pw_iadd hO dX8_note_30 ?_
      refine pw_iald hO dX8_note_31 h (fun x16 h => ?_)
      refine pw_iast hO dX8_note_32 h (fun F17 h => ?_)
      refine pw_iinc hO [(1, .int (v1 + 1)), (0, .ref v0)] dX8_note_33 1 rfl rfl (by decide) rfl ?_
      refine pw_goto (tgt := 11) hO dX8_note_36 (by decide) ?_
      refine pw_sub (lv1 := [(0, .ref v0), (1, .int (v1 + 1))]) [1, 0] rfl ?_
      exact ih F17 v0 ((v1 + 1)) h
def g_X8_note (F : Hp) (a0 : Nat) : Option Hp := ((gI F a0 8 13).bind fun x1 => (if x1 = 14 then g_X8_note_b11 gF F a0 0 else g_X8_note_b49 F a0))
set_option maxHeartbeats 4000000 in
theorem bl_X8_note {X : Cx} {F' : Hp} (hX : Md X cX8_note RX8 2 (rmd 0) none false none F') (F : Hp) (a0 : Nat) (h : g_X8_note F a0 = some F') : PW X 0 0 F 0 [(0, .ref a0)] [] := by
  have hO := hX.1
  unfold g_X8_note at h
  refine pw_aload_n hO dX8_note_0 0 rfl ?_
  refine pw_getI hO dX8_note_1 fl_X8_136 h (fun x1 h => ?_)
  refine pw_bipush hO dX8_note_4 (v := 14) (by decide) ?_
  refine pw_icmp_ne (tgt := 49) hO dX8_note_6 (by decide) h (fun c2 h => ?_) (fun c2 h => ?_)
  · refine pw_sub (lv1 := [(0, .ref a0)]) [0] rfl ?_
    exact bl_X8_note_b49 hX F a0 h
  · refine pw_iconst hO dX8_note_9 (v := 0) (by decide) ?_
    refine pw_istore_n hO [(1, .int 0), (0, .ref a0)] dX8_note_10 (by decide) rfl ?_
    refine pw_sub (lv1 := [(0, .ref a0), (1, .int 0)]) [1, 0] rfl ?_
    exact bl_X8_note_b11 hX gF F a0 0 h
theorem ct_X8_note {n : Nat} {F : Hp} {a0 : Nat} {F' : Hp} (h : g_X8_note F a0 = some F') : CT yX8_note cX8_note 2 none (rmd 0) n F [.ref a0] none F' :=
  ct_intro (own := RX8) (nm := false) (by decide) rfl (fun h => by cases h) (Nat.le_of_ble_eq_true rfl) (fun X hn hX => bl_X8_note hX F a0 h)
def g_X8_come (F : Hp) (a0 : Nat) (a1 : Int32) : Option (Int32 × Hp) := ((pV F a0 8 0 (.int 0)).bind fun F1 => (bnd2 (g_X8_noEnd F1 a1) fun x3 F2 => (if x3 = 0 then ((gR F2 a0 8 7).bind fun q5 => (bnd2 (g_X8_isFull F2 q5 a1) fun x7 F6 => (if x7 = 0 then (ckO F6 a0 8 ((g_X8_note F6 a0).bind fun F9 => ((gR F9 a0 8 7).bind fun q11 => ((g_X8_comeOn F9 q11 a1 0).bind fun F12 => ((gR F12 a0 8 7).bind fun q14 => (bnd2 (g_X8_at F12 a1) fun x16 F15 => ((aI F15 q14 0 (x16 + 4)).bind fun x17 => some (x17, F15)))))))) else some ((-4), F6)))) else some ((-1), F2))))
set_option maxHeartbeats 4000000 in
theorem bl_X8_come {X : Cx} {rx : Int32} {F' : Hp} (hX : Md X cX8_come RX8 2 (rmd 2) (some FieldType.int) false (some (.int rx)) F') (F : Hp) (a0 : Nat) (a1 : Int32) (h : g_X8_come F a0 a1 = some (rx, F')) : PW X 0 0 F 0 [(0, .ref a0), (1, .int a1)] [] := by
  have hO := hX.1
  unfold g_X8_come at h
  refine pw_aload_n hO dX8_come_0 0 rfl ?_
  refine pw_iconst hO dX8_come_1 (v := 0) (by decide) ?_
  refine pw_putI hO dX8_come_2 fp_X8_58 h (fun F1 h => ?_)
  refine pw_iload_n hO dX8_come_5 1 rfl ?_
  refine pw_SI (as := [.int a1]) (st := []) (d := 1) hO [.int a1] dX8_come_6 sl_X8_149 h (fun r F1 hg n => ct_X8_noEnd hg) ⟨Nat.le_of_ble_eq_true rfl, Nat.le_of_ble_eq_true rfl⟩ ⟨Nat.zero_le _, Nat.zero_le _⟩ (Nat.le_of_ble_eq_true rfl) (fun _ _ => rfl) rfl (fun x3 F2 h => ?_)
  refine pw_if_eq (tgt := 14) hO dX8_come_9 (by decide) h (fun c4 h => ?_) (fun c4 h => ?_)
  · refine pw_aload_n hO dX8_come_14 0 rfl ?_
    refine pw_getR hO dX8_come_15 fl_X8_19 h (fun q5 h => ?_)
    refine pw_iload_n hO dX8_come_18 1 rfl ?_
    refine pw_SI (as := [.ref q5, .int a1]) (st := []) (d := 1) hO [.int a1, .ref q5] dX8_come_19 sl_X8_123 h (fun r F1 hg n => ct_X8_isFull hg) ⟨Nat.le_of_ble_eq_true rfl, Nat.le_of_ble_eq_true rfl⟩ ⟨Nat.zero_le _, Nat.zero_le _⟩ (Nat.le_of_ble_eq_true rfl) (fun _ _ => rfl) rfl (fun x7 F6 h => ?_)
    refine pw_if_eq (tgt := 28) hO dX8_come_22 (by decide) h (fun c8 h => ?_) (fun c8 h => ?_)
    · refine pw_aload_n hO dX8_come_28 0 rfl ?_
      refine pw_V0 (a := a0) (ci := 8) (as := []) (st := []) (d := 0) hO [.ref a0] dX8_come_29 vl_X8_158 h (fun F1 hg n => ct_X8_note hg) ⟨Nat.le_of_ble_eq_true rfl, Nat.le_of_ble_eq_true rfl⟩ ⟨Nat.zero_le _, Nat.zero_le _⟩ (Nat.le_of_ble_eq_true rfl) (fun _ _ => rfl) rfl (fun F9 h => ?_)
      refine pw_aload_n hO dX8_come_32 0 rfl ?_
      refine pw_getR hO dX8_come_33 fl_X8_19 h (fun q11 h => ?_)
      refine pw_iload_n hO dX8_come_36 1 rfl ?_
      refine pw_iconst hO dX8_come_37 (v := 0) (by decide) ?_
      refine pw_S0 (as := [.ref q11, .int a1, .int 0]) (st := []) (d := 1) hO [.int 0, .int a1, .ref q11] dX8_come_38 sl_X8_126 h (fun F1 hg n => ct_X8_comeOn hg) ⟨Nat.le_of_ble_eq_true rfl, Nat.le_of_ble_eq_true rfl⟩ ⟨Nat.zero_le _, Nat.zero_le _⟩ (Nat.le_of_ble_eq_true rfl) (fun _ _ => rfl) rfl (fun F12 h => ?_)
      refine pw_aload_n hO dX8_come_41 0 rfl ?_
      refine pw_getR hO dX8_come_42 fl_X8_19 h (fun q14 h => ?_)
      refine pw_iload_n hO dX8_come_45 1 rfl ?_
      refine pw_SI (as := [.int a1]) (st := [.ref q14]) (d := 0) hO [.int a1, .ref q14] dX8_come_46 sl_X8_65 h (fun r F1 hg n => ct_X8_at hg) ⟨Nat.le_of_ble_eq_true rfl, Nat.le_of_ble_eq_true rfl⟩ ⟨Nat.zero_le _, Nat.zero_le _⟩ (Nat.le_of_ble_eq_true rfl) (fun _ _ => rfl) rfl (fun x16 F15 h => ?_)
      refine pw_iconst hO dX8_come_49 (v := 4) (by decide) ?_
      refine pw_iadd hO dX8_come_50 ?_
      refine pw_iald hO dX8_come_51 h (fun x17 h => ?_)
      exact pw_iret hO hX.2 dX8_come_52 h
    · refine pw_bipush hO dX8_come_25 (v := (-4)) (by decide) ?_
      exact pw_iret hO hX.2 dX8_come_27 h
  · refine pw_iconst hO dX8_come_12 (v := (-1)) (by decide) ?_
    exact pw_iret hO hX.2 dX8_come_13 h
theorem ct_X8_come {n : Nat} {F : Hp} {a0 : Nat} {a1 : Int32} {rx : Int32} {F' : Hp} (h : g_X8_come F a0 a1 = some (rx, F')) : CT yX8_come cX8_come 2 (some FieldType.int) (rmd 2) n F [.ref a0, .int a1] (some (.int rx)) F' :=
  ct_intro (own := RX8) (nm := false) (by decide) rfl (fun h => by cases h) (Nat.le_of_ble_eq_true rfl) (fun X hn hX => bl_X8_come hX F a0 a1 h)
def g_X8_pass_b26 : Nat → Hp → Nat → Int32 → Int32 → Option (Int32 × Hp)
  | 0, _, _, _, _ => none
  | n + 1, F, v0, v1, v2 => (if v1 ≤ v2 then ((gR F v0 8 7).bind fun q8 => ((aI F q8 0 3).bind fun x9 => some (x9, F))) else ((gR F v0 8 7).bind fun q10 => (ckO F v0 8 ((g_X8_tick F v0 q10).bind fun F11 => g_X8_pass_b26 n F11 v0 v1 ((v2 + 1))))))
set_option maxHeartbeats 4000000 in
theorem bl_X8_pass_b26 {X : Cx} {rx : Int32} {F' : Hp} (hX : Md X cX8_pass RX8 3 (rmd 3) (some FieldType.int) false (some (.int rx)) F') : ∀ (n : Nat) (F : Hp) (v0 : Nat) (v1 : Int32) (v2 : Int32), g_X8_pass_b26 n F v0 v1 v2 = some (rx, F') → PW X 0 0 F 26 [(0, .ref v0), (1, .int v1), (2, .int v2)] [] := by
  have hO := hX.1
  intro n
  induction n with
  | zero => intro F v0 v1 v2 h; rw [g_X8_pass_b26] at h; cases h
  | succ n ih =>
    intro F v0 v1 v2 h
    rw [g_X8_pass_b26] at h
    refine pw_iload_n hO dX8_pass_26 2 rfl ?_
    refine pw_iload_n hO dX8_pass_27 1 rfl ?_
    refine pw_icmp_ge (tgt := 45) hO dX8_pass_28 (by decide) h (fun c7 h => ?_) (fun c7 h => ?_)
    · refine pw_aload_n hO dX8_pass_45 0 rfl ?_
      refine pw_getR hO dX8_pass_46 fl_X8_19 h (fun q8 h => ?_)
      refine pw_iconst hO dX8_pass_49 (v := 3) (by decide) ?_
      refine pw_iald hO dX8_pass_50 h (fun x9 h => ?_)
      exact pw_iret hO hX.2 dX8_pass_51 h
    · refine pw_aload_n hO dX8_pass_31 0 rfl ?_
      refine pw_aload_n hO dX8_pass_32 0 rfl ?_
      refine pw_getR hO dX8_pass_33 fl_X8_19 h (fun q10 h => ?_)
      refine pw_V0 (a := v0) (ci := 8) (as := [.ref q10]) (st := []) (d := 2) hO [.ref q10, .ref v0] dX8_pass_36 vl_X8_96 h (fun F1 hg n => ct_X8_tick hg) ⟨Nat.le_of_ble_eq_true rfl, Nat.le_of_ble_eq_true rfl⟩ ⟨Nat.zero_le _, Nat.zero_le _⟩ (Nat.le_of_ble_eq_true rfl) (fun _ _ => rfl) rfl (fun F11 h => ?_)
      refine pw_iinc hO [(2, .int (v2 + 1)), (0, .ref v0), (1, .int v1)] dX8_pass_39 2 rfl rfl (by decide) rfl ?_
      refine pw_goto (tgt := 26) hO dX8_pass_42 (by decide) ?_
      refine pw_sub (lv1 := [(0, .ref v0), (1, .int v1), (2, .int (v2 + 1))]) [1, 2, 0] rfl ?_
      exact ih F11 v0 v1 ((v2 + 1)) h
def g_X8_pass (F : Hp) (a0 : Nat) (a1 : Int32) : Option (Int32 × Hp) := ((pV F a0 8 0 (.int 0)).bind fun F1 => (bnd2 (g_X8_in F1 (Int32.toInt64 a1) (1 : Int64) (20 : Int64)) fun x3 F2 => (if x3 = 0 then some ((-2), F2) else (ckO F2 a0 8 ((g_X8_note F2 a0).bind fun F5 => g_X8_pass_b26 gF F5 a0 a1 0)))))
set_option maxHeartbeats 4000000 in
theorem bl_X8_pass {X : Cx} {rx : Int32} {F' : Hp} (hX : Md X cX8_pass RX8 3 (rmd 3) (some FieldType.int) false (some (.int rx)) F') (F : Hp) (a0 : Nat) (a1 : Int32) (h : g_X8_pass F a0 a1 = some (rx, F')) : PW X 0 0 F 0 [(0, .ref a0), (1, .int a1)] [] := by
  have hO := hX.1
  unfold g_X8_pass at h
  refine pw_aload_n hO dX8_pass_0 0 rfl ?_
  refine pw_iconst hO dX8_pass_1 (v := 0) (by decide) ?_
  refine pw_putI hO dX8_pass_2 fp_X8_58 h (fun F1 h => ?_)
  refine pw_iload_n hO dX8_pass_5 1 rfl ?_
  refine pw_i2l hO dX8_pass_6 ?_
  refine pw_lconst hO dX8_pass_7 (v := (1 : Int64)) (by decide) ?_
  refine pw_ldc2 hO dX8_pass_8 kl_X8_161 ?_
  refine pw_SI (as := [.long (Int32.toInt64 a1), .long (1 : Int64), .long (20 : Int64)]) (st := []) (d := 0) hO [.long (20 : Int64), .long (1 : Int64), .long (Int32.toInt64 a1)] dX8_pass_11 sl_X8_61 h (fun r F1 hg n => ct_X8_in hg) ⟨Nat.le_of_ble_eq_true rfl, Nat.le_of_ble_eq_true rfl⟩ ⟨Nat.zero_le _, Nat.zero_le _⟩ (Nat.le_of_ble_eq_true rfl) (fun _ _ => rfl) rfl (fun x3 F2 h => ?_)
  refine pw_if_ne (tgt := 20) hO dX8_pass_14 (by decide) h (fun c4 h => ?_) (fun c4 h => ?_)
  · refine pw_aload_n hO dX8_pass_20 0 rfl ?_
    refine pw_V0 (a := a0) (ci := 8) (as := []) (st := []) (d := 0) hO [.ref a0] dX8_pass_21 vl_X8_158 h (fun F1 hg n => ct_X8_note hg) ⟨Nat.le_of_ble_eq_true rfl, Nat.le_of_ble_eq_true rfl⟩ ⟨Nat.zero_le _, Nat.zero_le _⟩ (Nat.le_of_ble_eq_true rfl) (fun _ _ => rfl) rfl (fun F5 h => ?_)
    refine pw_iconst hO dX8_pass_24 (v := 0) (by decide) ?_
    refine pw_istore_n hO [(2, .int 0), (0, .ref a0), (1, .int a1)] dX8_pass_25 (by decide) rfl ?_
    refine pw_sub (lv1 := [(0, .ref a0), (1, .int a1), (2, .int 0)]) [1, 2, 0] rfl ?_
    exact bl_X8_pass_b26 hX gF F5 a0 a1 0 h
  · refine pw_bipush hO dX8_pass_17 (v := (-2)) (by decide) ?_
    exact pw_iret hO hX.2 dX8_pass_19 h
theorem ct_X8_pass {n : Nat} {F : Hp} {a0 : Nat} {a1 : Int32} {rx : Int32} {F' : Hp} (h : g_X8_pass F a0 a1 = some (rx, F')) : CT yX8_pass cX8_pass 3 (some FieldType.int) (rmd 3) n F [.ref a0, .int a1] (some (.int rx)) F' :=
  ct_intro (own := RX8) (nm := false) (by decide) rfl (fun h => by cases h) (Nat.le_of_ble_eq_true rfl) (fun X hn hX => bl_X8_pass hX F a0 a1 h)
def g_X8_tell_b59 (F : Hp) (v0 : Nat) (v1 : Int32) (v2 : Int32) (v3 : Int32) : Option (Int32 × Hp) := (ckO F v0 8 ((g_X8_note F v0).bind fun F12 => ((gR F12 v0 8 7).bind fun q14 => (bnd2 (g_X8_at F12 v1) fun x16 F15 => ((aI F15 q14 0 (x16 + v2)).bind fun x17 => ((gR F15 v0 8 7).bind fun q18 => (bnd2 (g_X8_at F15 v1) fun x20 F19 => ((sI F19 q18 0 (x20 + v2) v3).bind fun F21 => (if v2 = 0 then ((gR F21 v0 8 7).bind fun q23 => ((g_X8_comeOn F21 q23 v1 v3).bind fun F24 => some (x17, F24))) else some (x17, F21))))))))))
set_option maxHeartbeats 4000000 in
theorem bl_X8_tell_b59 {X : Cx} {rx : Int32} {F' : Hp} (hX : Md X cX8_tell RX8 5 (rmd 2) (some FieldType.int) false (some (.int rx)) F') (F : Hp) (v0 : Nat) (v1 : Int32) (v2 : Int32) (v3 : Int32) (h : g_X8_tell_b59 F v0 v1 v2 v3 = some (rx, F')) : PW X 0 0 F 59 [(0, .ref v0), (1, .int v1), (2, .int v2), (3, .int v3)] [] := by
  have hO := hX.1
  unfold g_X8_tell_b59 at h
  refine pw_aload_n hO dX8_tell_59 0 rfl ?_
  refine pw_V0 (a := v0) (ci := 8) (as := []) (st := []) (d := 0) hO [.ref v0] dX8_tell_60 vl_X8_158 h (fun F1 hg n => ct_X8_note hg) ⟨Nat.le_of_ble_eq_true rfl, Nat.le_of_ble_eq_true rfl⟩ ⟨Nat.zero_le _, Nat.zero_le _⟩ (Nat.le_of_ble_eq_true rfl) (fun _ _ => rfl) rfl (fun F12 h => ?_)
  refine pw_aload_n hO dX8_tell_63 0 rfl ?_
  refine pw_getR hO dX8_tell_64 fl_X8_19 h (fun q14 h => ?_)
  refine pw_iload_n hO dX8_tell_67 1 rfl ?_
  refine pw_SI (as := [.int v1]) (st := [.ref q14]) (d := 0) hO [.int v1, .ref q14] dX8_tell_68 sl_X8_65 h (fun r F1 hg n => ct_X8_at hg) ⟨Nat.le_of_ble_eq_true rfl, Nat.le_of_ble_eq_true rfl⟩ ⟨Nat.zero_le _, Nat.zero_le _⟩ (Nat.le_of_ble_eq_true rfl) (fun _ _ => rfl) rfl (fun x16 F15 h => ?_)
  refine pw_iload_n hO dX8_tell_71 2 rfl ?_
  refine pw_iadd hO dX8_tell_72 ?_
  refine pw_iald hO dX8_tell_73 h (fun x17 h => ?_)
  refine pw_istore hO [(4, .int x17), (0, .ref v0), (1, .int v1), (2, .int v2), (3, .int v3)] dX8_tell_74 (by decide) rfl ?_
  refine pw_aload_n hO dX8_tell_76 1 rfl ?_
  refine pw_getR hO dX8_tell_77 fl_X8_19 h (fun q18 h => ?_)
  refine pw_iload_n hO dX8_tell_80 2 rfl ?_
  refine pw_SI (as := [.int v1]) (st := [.ref q18]) (d := 0) hO [.int v1, .ref q18] dX8_tell_81 sl_X8_65 h (fun r F1 hg n => ct_X8_at hg) ⟨Nat.le_of_ble_eq_true rfl, Nat.le_of_ble_eq_true rfl⟩ ⟨Nat.zero_le _, Nat.zero_le _⟩ (Nat.le_of_ble_eq_true rfl) (fun _ _ => rfl) rfl (fun x20 F19 h => ?_)
  refine pw_iload_n hO dX8_tell_84 3 rfl ?_
  refine pw_iadd hO dX8_tell_85 ?_
  refine pw_iload_n hO dX8_tell_86 4 rfl ?_
  refine pw_iast hO dX8_tell_87 h (fun F21 h => ?_)
  refine pw_iload_n hO dX8_tell_88 3 rfl ?_
  refine pw_if_ne (tgt := 101) hO dX8_tell_89 (by decide) h (fun c22 h => ?_) (fun c22 h => ?_)
  · refine pw_iload hO dX8_tell_101 0 rfl ?_
    exact pw_iret hO hX.2 dX8_tell_103 h
  · refine pw_aload_n hO dX8_tell_92 1 rfl ?_
    refine pw_getR hO dX8_tell_93 fl_X8_19 h (fun q23 h => ?_)
    refine pw_iload_n hO dX8_tell_96 2 rfl ?_
    refine pw_iload_n hO dX8_tell_97 4 rfl ?_
    refine pw_S0 (as := [.ref q23, .int v1, .int v3]) (st := []) (d := 1) hO [.int v3, .int v1, .ref q23] dX8_tell_98 sl_X8_126 h (fun F1 hg n => ct_X8_comeOn hg) ⟨Nat.le_of_ble_eq_true rfl, Nat.le_of_ble_eq_true rfl⟩ ⟨Nat.zero_le _, Nat.zero_le _⟩ (Nat.le_of_ble_eq_true rfl) (fun _ _ => rfl) rfl (fun F24 h => ?_)
    refine pw_iload hO dX8_tell_101 0 rfl ?_
    exact pw_iret hO hX.2 dX8_tell_103 h
def g_X8_tell (F : Hp) (a0 : Nat) (a1 : Int32) (a2 : Int32) (a3 : Int32) : Option (Int32 × Hp) := ((pV F a0 8 0 (.int 0)).bind fun F1 => (bnd2 (g_X8_noEnd F1 a1) fun x3 F2 => (if x3 = 0 then (bnd2 (g_X8_in F2 (Int32.toInt64 a2) (0 : Int64) (2 : Int64)) fun x6 F5 => (if x6 = 0 then some ((-2), F5) else (bnd2 (g_X8_in F5 (Int32.toInt64 a3) (1 : Int64) (9 : Int64)) fun x9 F8 => (if x9 = 0 then some ((-2), F8) else (if a2 = 0 then ((gR F8 a0 8 7).bind fun q26 => (bnd2 (g_X8_isFull F8 q26 a1) fun x28 F27 => (if x28 = 0 then g_X8_tell_b59 F27 a0 a1 a2 a3 else some ((-4), F27)))) else g_X8_tell_b59 F8 a0 a1 a2 a3))))) else some ((-1), F2))))
set_option maxHeartbeats 4000000 in
theorem bl_X8_tell {X : Cx} {rx : Int32} {F' : Hp} (hX : Md X cX8_tell RX8 5 (rmd 2) (some FieldType.int) false (some (.int rx)) F') (F : Hp) (a0 : Nat) (a1 : Int32) (a2 : Int32) (a3 : Int32) (h : g_X8_tell F a0 a1 a2 a3 = some (rx, F')) : PW X 0 0 F 0 [(0, .ref a0), (1, .int a1), (2, .int a2), (3, .int a3)] [] := by
  have hO := hX.1
  unfold g_X8_tell at h
  refine pw_aload_n hO dX8_tell_0 0 rfl ?_
  refine pw_iconst hO dX8_tell_1 (v := 0) (by decide) ?_
  refine pw_putI hO dX8_tell_2 fp_X8_58 h (fun F1 h => ?_)
  refine pw_iload_n hO dX8_tell_5 1 rfl ?_
  refine pw_SI (as := [.int a1]) (st := []) (d := 1) hO [.int a1] dX8_tell_6 sl_X8_149 h (fun r F1 hg n => ct_X8_noEnd hg) ⟨Nat.le_of_ble_eq_true rfl, Nat.le_of_ble_eq_true rfl⟩ ⟨Nat.zero_le _, Nat.zero_le _⟩ (Nat.le_of_ble_eq_true rfl) (fun _ _ => rfl) rfl (fun x3 F2 h => ?_)
  refine pw_if_eq (tgt := 14) hO dX8_tell_9 (by decide) h (fun c4 h => ?_) (fun c4 h => ?_)
  · refine pw_iload_n hO dX8_tell_14 2 rfl ?_
    refine pw_i2l hO dX8_tell_15 ?_
    refine pw_lconst hO dX8_tell_16 (v := (0 : Int64)) (by decide) ?_
    refine pw_ldc2 hO dX8_tell_17 kl_X8_163 ?_
    refine pw_SI (as := [.long (Int32.toInt64 a2), .long (0 : Int64), .long (2 : Int64)]) (st := []) (d := 0) hO [.long (2 : Int64), .long (0 : Int64), .long (Int32.toInt64 a2)] dX8_tell_20 sl_X8_61 h (fun r F1 hg n => ct_X8_in hg) ⟨Nat.le_of_ble_eq_true rfl, Nat.le_of_ble_eq_true rfl⟩ ⟨Nat.zero_le _, Nat.zero_le _⟩ (Nat.le_of_ble_eq_true rfl) (fun _ _ => rfl) rfl (fun x6 F5 h => ?_)
    refine pw_if_eq (tgt := 38) hO dX8_tell_23 (by decide) h (fun c7 h => ?_) (fun c7 h => ?_)
    · refine pw_bipush hO dX8_tell_38 (v := (-2)) (by decide) ?_
      exact pw_iret hO hX.2 dX8_tell_40 h
    · refine pw_iload_n hO dX8_tell_26 3 rfl ?_
      refine pw_i2l hO dX8_tell_27 ?_
      refine pw_lconst hO dX8_tell_28 (v := (1 : Int64)) (by decide) ?_
      refine pw_ldc2 hO dX8_tell_29 kl_X8_107 ?_
      refine pw_SI (as := [.long (Int32.toInt64 a3), .long (1 : Int64), .long (9 : Int64)]) (st := []) (d := 0) hO [.long (9 : Int64), .long (1 : Int64), .long (Int32.toInt64 a3)] dX8_tell_32 sl_X8_61 h (fun r F1 hg n => ct_X8_in hg) ⟨Nat.le_of_ble_eq_true rfl, Nat.le_of_ble_eq_true rfl⟩ ⟨Nat.zero_le _, Nat.zero_le _⟩ (Nat.le_of_ble_eq_true rfl) (fun _ _ => rfl) rfl (fun x9 F8 h => ?_)
      refine pw_if_ne (tgt := 41) hO dX8_tell_35 (by decide) h (fun c10 h => ?_) (fun c10 h => ?_)
      · refine pw_iload_n hO dX8_tell_41 2 rfl ?_
        refine pw_if_ne (tgt := 59) hO dX8_tell_42 (by decide) h (fun c11 h => ?_) (fun c11 h => ?_)
        · refine pw_sub (lv1 := [(0, .ref a0), (1, .int a1), (2, .int a2), (3, .int a3)]) [0, 1, 2, 3] rfl ?_
          exact bl_X8_tell_b59 hX F8 a0 a1 a2 a3 h
        · refine pw_aload_n hO dX8_tell_45 0 rfl ?_
          refine pw_getR hO dX8_tell_46 fl_X8_19 h (fun q26 h => ?_)
          refine pw_iload_n hO dX8_tell_49 1 rfl ?_
          refine pw_SI (as := [.ref q26, .int a1]) (st := []) (d := 1) hO [.int a1, .ref q26] dX8_tell_50 sl_X8_123 h (fun r F1 hg n => ct_X8_isFull hg) ⟨Nat.le_of_ble_eq_true rfl, Nat.le_of_ble_eq_true rfl⟩ ⟨Nat.zero_le _, Nat.zero_le _⟩ (Nat.le_of_ble_eq_true rfl) (fun _ _ => rfl) rfl (fun x28 F27 h => ?_)
          refine pw_if_eq (tgt := 59) hO dX8_tell_53 (by decide) h (fun c29 h => ?_) (fun c29 h => ?_)
          · refine pw_sub (lv1 := [(0, .ref a0), (1, .int a1), (2, .int a2), (3, .int a3)]) [0, 1, 2, 3] rfl ?_
            exact bl_X8_tell_b59 hX F27 a0 a1 a2 a3 h
          · refine pw_bipush hO dX8_tell_56 (v := (-4)) (by decide) ?_
            exact pw_iret hO hX.2 dX8_tell_58 h
      · refine pw_bipush hO dX8_tell_38 (v := (-2)) (by decide) ?_
        exact pw_iret hO hX.2 dX8_tell_40 h
  · refine pw_iconst hO dX8_tell_12 (v := (-1)) (by decide) ?_
    exact pw_iret hO hX.2 dX8_tell_13 h
theorem ct_X8_tell {n : Nat} {F : Hp} {a0 : Nat} {a1 : Int32} {a2 : Int32} {a3 : Int32} {rx : Int32} {F' : Hp} (h : g_X8_tell F a0 a1 a2 a3 = some (rx, F')) : CT yX8_tell cX8_tell 5 (some FieldType.int) (rmd 2) n F [.ref a0, .int a1, .int a2, .int a3] (some (.int rx)) F' :=
  ct_intro (own := RX8) (nm := false) (by decide) rfl (fun h => by cases h) (Nat.le_of_ble_eq_true rfl) (fun X hn hX => bl_X8_tell hX F a0 a1 a2 a3 h)
def g_X8_undo_b27 : Nat → Hp → Nat → Int32 → Option (Int32 × Hp)
  | 0, _, _, _ => none
  | n + 1, F, v0, v1 => (if 39 ≤ v1 then ((gI F v0 8 13).bind fun x7 => some (x7, F)) else ((gR F v0 8 7).bind fun q8 => ((gR F v0 8 12).bind fun q9 => ((gI F v0 8 13).bind fun x10 => ((aI F q9 0 ((39 * x10) + v1)).bind fun x11 => ((sI F q8 0 v1 x11).bind fun F12 => g_X8_undo_b27 n F12 v0 ((v1 + 1))))))))
set_option maxHeartbeats 4000000 in
theorem bl_X8_undo_b27 {X : Cx} {rx : Int32} {F' : Hp} (hX : Md X cX8_undo RX8 2 (rmd 0) (some FieldType.int) false (some (.int rx)) F') : ∀ (n : Nat) (F : Hp) (v0 : Nat) (v1 : Int32), g_X8_undo_b27 n F v0 v1 = some (rx, F') → PW X 0 0 F 27 [(0, .ref v0), (1, .int v1)] [] := by
  have hO := hX.1
  intro n
  induction n with
  | zero => intro F v0 v1 h; rw [g_X8_undo_b27] at h; cases h
  | succ n ih =>
    intro F v0 v1 h
    rw [g_X8_undo_b27] at h
    refine pw_iload_n hO dX8_undo_27 1 rfl ?_
    refine pw_bipush hO dX8_undo_28 (v := 39) (by decide) ?_
    refine pw_icmp_ge (tgt := 59) hO dX8_undo_30 (by decide) h (fun c6 h => ?_) (fun c6 h => ?_)
    · refine pw_aload_n hO dX8_undo_59 0 rfl ?_
      refine pw_getI hO dX8_undo_60 fl_X8_136 h (fun x7 h => ?_)
      exact pw_iret hO hX.2 dX8_undo_63 h
    · refine pw_aload_n hO dX8_undo_33 0 rfl ?_
      refine pw_getR hO dX8_undo_34 fl_X8_19 h (fun q8 h => ?_)
      refine pw_iload_n hO dX8_undo_37 1 rfl ?_
      refine pw_aload_n hO dX8_undo_38 0 rfl ?_
      refine pw_getR hO dX8_undo_39 fl_X8_31 h (fun q9 h => ?_)
      refine pw_bipush hO dX8_undo_42 (v := 39) (by decide) ?_
      refine pw_aload_n hO dX8_undo_44 0 rfl ?_
      refine pw_getI hO dX8_undo_45 fl_X8_136 h (fun x10 h => ?_)
      refine pw_imul hO dX8_undo_48 ?_
      refine pw_iload_n hO dX8_undo_49 1 rfl ?_
      refine pw_iadd hO dX8_undo_50 ?_
      refine pw_iald hO dX8_undo_51 h (fun x11 h => ?_)
      refine pw_iast hO dX8_undo_52 h (fun F12 h => ?_)
      refine pw_iinc hO [(1, .int (v1 + 1)), (0, .ref v0)] dX8_undo_53 1 rfl rfl (by decide) rfl ?_
      refine pw_goto (tgt := 27) hO dX8_undo_56 (by decide) ?_
      refine pw_sub (lv1 := [(0, .ref v0), (1, .int (v1 + 1))]) [1, 0] rfl ?_
      exact ih F12 v0 ((v1 + 1)) h
def g_X8_undo (F : Hp) (a0 : Nat) : Option (Int32 × Hp) := ((pV F a0 8 0 (.int 0)).bind fun F1 => ((gI F1 a0 8 13).bind fun x2 => (if x2 = 0 then some ((-3), F1) else ((gI F1 a0 8 13).bind fun x4 => ((pV F1 a0 8 13 (.int (x4 - 1))).bind fun F5 => g_X8_undo_b27 gF F5 a0 0)))))
set_option maxHeartbeats 4000000 in
theorem bl_X8_undo {X : Cx} {rx : Int32} {F' : Hp} (hX : Md X cX8_undo RX8 2 (rmd 0) (some FieldType.int) false (some (.int rx)) F') (F : Hp) (a0 : Nat) (h : g_X8_undo F a0 = some (rx, F')) : PW X 0 0 F 0 [(0, .ref a0)] [] := by
  have hO := hX.1
  unfold g_X8_undo at h
  refine pw_aload_n hO dX8_undo_0 0 rfl ?_
  refine pw_iconst hO dX8_undo_1 (v := 0) (by decide) ?_
  refine pw_putI hO dX8_undo_2 fp_X8_58 h (fun F1 h => ?_)
  refine pw_aload_n hO dX8_undo_5 0 rfl ?_
  refine pw_getI hO dX8_undo_6 fl_X8_136 h (fun x2 h => ?_)
  refine pw_if_ne (tgt := 15) hO dX8_undo_9 (by decide) h (fun c3 h => ?_) (fun c3 h => ?_)
  · refine pw_aload_n hO dX8_undo_15 0 rfl ?_
    refine pw_dup hO dX8_undo_16 rfl ?_
    refine pw_getI hO dX8_undo_17 fl_X8_136 h (fun x4 h => ?_)
    refine pw_iconst hO dX8_undo_20 (v := 1) (by decide) ?_
    refine pw_isub hO dX8_undo_21 ?_
    refine pw_putI hO dX8_undo_22 fp_X8_136 h (fun F5 h => ?_)
    refine pw_iconst hO dX8_undo_25 (v := 0) (by decide) ?_
    refine pw_istore_n hO [(1, .int 0), (0, .ref a0)] dX8_undo_26 (by decide) rfl ?_
    refine pw_sub (lv1 := [(0, .ref a0), (1, .int 0)]) [1, 0] rfl ?_
    exact bl_X8_undo_b27 hX gF F5 a0 0 h
  · refine pw_bipush hO dX8_undo_12 (v := (-3)) (by decide) ?_
    exact pw_iret hO hX.2 dX8_undo_14 h
theorem ct_X8_undo {n : Nat} {F : Hp} {a0 : Nat} {rx : Int32} {F' : Hp} (h : g_X8_undo F a0 = some (rx, F')) : CT yX8_undo cX8_undo 2 (some FieldType.int) (rmd 0) n F [.ref a0] (some (.int rx)) F' :=
  ct_intro (own := RX8) (nm := false) (by decide) rfl (fun h => by cases h) (Nat.le_of_ble_eq_true rfl) (fun X hn hX => bl_X8_undo hX F a0 h)
def g_X8_ahead_b45 : Nat → Hp → Nat → Int32 → Int32 → Int32 → Option (Int32 × Hp)
  | 0, _, _, _, _, _ => none
  | n + 1, F, v0, v1, v2, v3 => (if v1 ≤ v3 then ((gR F v0 8 11).bind fun q13 => (bnd2 (g_X8_told F q13 v2) fun x15 F14 => some (x15, F14))) else ((gR F v0 8 11).bind fun q16 => (ckO F v0 8 ((g_X8_tick F v0 q16).bind fun F17 => g_X8_ahead_b45 n F17 v0 v1 v2 ((v3 + 1))))))
set_option maxHeartbeats 4000000 in
theorem bl_X8_ahead_b45 {X : Cx} {rx : Int32} {F' : Hp} (hX : Md X cX8_ahead RX8 4 (rmd 3) (some FieldType.int) false (some (.int rx)) F') : ∀ (n : Nat) (F : Hp) (v0 : Nat) (v1 : Int32) (v2 : Int32) (v3 : Int32), g_X8_ahead_b45 n F v0 v1 v2 v3 = some (rx, F') → PW X 0 0 F 45 [(0, .ref v0), (1, .int v1), (2, .int v2), (3, .int v3)] [] := by
  have hO := hX.1
  intro n
  induction n with
  | zero => intro F v0 v1 v2 v3 h; rw [g_X8_ahead_b45] at h; cases h
  | succ n ih =>
    intro F v0 v1 v2 v3 h
    rw [g_X8_ahead_b45] at h
    refine pw_iload_n hO dX8_ahead_45 3 rfl ?_
    refine pw_iload_n hO dX8_ahead_46 1 rfl ?_
    refine pw_icmp_ge (tgt := 64) hO dX8_ahead_47 (by decide) h (fun c12 h => ?_) (fun c12 h => ?_)
    · refine pw_aload_n hO dX8_ahead_64 0 rfl ?_
      refine pw_getR hO dX8_ahead_65 fl_X8_28 h (fun q13 h => ?_)
      refine pw_iload_n hO dX8_ahead_68 2 rfl ?_
      refine pw_SI (as := [.ref q13, .int v2]) (st := []) (d := 2) hO [.int v2, .ref q13] dX8_ahead_69 sl_X8_139 h (fun r F1 hg n => ct_X8_told hg) ⟨Nat.le_of_ble_eq_true rfl, Nat.le_of_ble_eq_true rfl⟩ ⟨Nat.zero_le _, Nat.zero_le _⟩ (Nat.le_of_ble_eq_true rfl) (fun _ _ => rfl) rfl (fun x15 F14 h => ?_)
      exact pw_iret hO hX.2 dX8_ahead_72 h
    · refine pw_aload_n hO dX8_ahead_50 0 rfl ?_
      refine pw_aload_n hO dX8_ahead_51 0 rfl ?_
      refine pw_getR hO dX8_ahead_52 fl_X8_28 h (fun q16 h => ?_)
      refine pw_V0 (a := v0) (ci := 8) (as := [.ref q16]) (st := []) (d := 2) hO [.ref q16, .ref v0] dX8_ahead_55 vl_X8_96 h (fun F1 hg n => ct_X8_tick hg) ⟨Nat.le_of_ble_eq_true rfl, Nat.le_of_ble_eq_true rfl⟩ ⟨Nat.zero_le _, Nat.zero_le _⟩ (Nat.le_of_ble_eq_true rfl) (fun _ _ => rfl) rfl (fun F17 h => ?_)
      refine pw_iinc hO [(3, .int (v3 + 1)), (0, .ref v0), (1, .int v1), (2, .int v2)] dX8_ahead_58 3 rfl rfl (by decide) rfl ?_
      refine pw_goto (tgt := 45) hO dX8_ahead_61 (by decide) ?_
      refine pw_sub (lv1 := [(0, .ref v0), (1, .int v1), (2, .int v2), (3, .int (v3 + 1))]) [1, 2, 3, 0] rfl ?_
      exact ih F17 v0 v1 v2 ((v3 + 1)) h
def g_X8_ahead (F : Hp) (a0 : Nat) (a1 : Int32) (a2 : Int32) : Option (Int32 × Hp) := ((pV F a0 8 0 (.int 0)).bind fun F1 => (bnd2 (g_X8_in F1 (Int32.toInt64 a1) (0 : Int64) (99 : Int64)) fun x3 F2 => (if x3 = 0 then some ((-2), F2) else (bnd2 (g_X8_in F2 (Int32.toInt64 a2) (0 : Int64) (9 : Int64)) fun x6 F5 => (if x6 = 0 then some ((-2), F5) else ((gR F5 a0 8 7).bind fun q8 => ((gR F5 a0 8 11).bind fun q9 => ((g_X8_lay F5 q8 q9).bind fun F10 => g_X8_ahead_b45 gF F10 a0 a1 a2 0))))))))
set_option maxHeartbeats 4000000 in
theorem bl_X8_ahead {X : Cx} {rx : Int32} {F' : Hp} (hX : Md X cX8_ahead RX8 4 (rmd 3) (some FieldType.int) false (some (.int rx)) F') (F : Hp) (a0 : Nat) (a1 : Int32) (a2 : Int32) (h : g_X8_ahead F a0 a1 a2 = some (rx, F')) : PW X 0 0 F 0 [(0, .ref a0), (1, .int a1), (2, .int a2)] [] := by
  have hO := hX.1
  unfold g_X8_ahead at h
  refine pw_aload_n hO dX8_ahead_0 0 rfl ?_
  refine pw_iconst hO dX8_ahead_1 (v := 0) (by decide) ?_
  refine pw_putI hO dX8_ahead_2 fp_X8_58 h (fun F1 h => ?_)
  refine pw_iload_n hO dX8_ahead_5 1 rfl ?_
  refine pw_i2l hO dX8_ahead_6 ?_
  refine pw_lconst hO dX8_ahead_7 (v := (0 : Int64)) (by decide) ?_
  refine pw_ldc2 hO dX8_ahead_8 kl_X8_165 ?_
  refine pw_SI (as := [.long (Int32.toInt64 a1), .long (0 : Int64), .long (99 : Int64)]) (st := []) (d := 0) hO [.long (99 : Int64), .long (0 : Int64), .long (Int32.toInt64 a1)] dX8_ahead_11 sl_X8_61 h (fun r F1 hg n => ct_X8_in hg) ⟨Nat.le_of_ble_eq_true rfl, Nat.le_of_ble_eq_true rfl⟩ ⟨Nat.zero_le _, Nat.zero_le _⟩ (Nat.le_of_ble_eq_true rfl) (fun _ _ => rfl) rfl (fun x3 F2 h => ?_)
  refine pw_if_eq (tgt := 29) hO dX8_ahead_14 (by decide) h (fun c4 h => ?_) (fun c4 h => ?_)
  · refine pw_bipush hO dX8_ahead_29 (v := (-2)) (by decide) ?_
    exact pw_iret hO hX.2 dX8_ahead_31 h
  · refine pw_iload_n hO dX8_ahead_17 2 rfl ?_
    refine pw_i2l hO dX8_ahead_18 ?_
    refine pw_lconst hO dX8_ahead_19 (v := (0 : Int64)) (by decide) ?_
    refine pw_ldc2 hO dX8_ahead_20 kl_X8_107 ?_
    refine pw_SI (as := [.long (Int32.toInt64 a2), .long (0 : Int64), .long (9 : Int64)]) (st := []) (d := 0) hO [.long (9 : Int64), .long (0 : Int64), .long (Int32.toInt64 a2)] dX8_ahead_23 sl_X8_61 h (fun r F1 hg n => ct_X8_in hg) ⟨Nat.le_of_ble_eq_true rfl, Nat.le_of_ble_eq_true rfl⟩ ⟨Nat.zero_le _, Nat.zero_le _⟩ (Nat.le_of_ble_eq_true rfl) (fun _ _ => rfl) rfl (fun x6 F5 h => ?_)
    refine pw_if_ne (tgt := 32) hO dX8_ahead_26 (by decide) h (fun c7 h => ?_) (fun c7 h => ?_)
    · refine pw_aload_n hO dX8_ahead_32 0 rfl ?_
      refine pw_getR hO dX8_ahead_33 fl_X8_19 h (fun q8 h => ?_)
      refine pw_aload_n hO dX8_ahead_36 0 rfl ?_
      refine pw_getR hO dX8_ahead_37 fl_X8_28 h (fun q9 h => ?_)
      refine pw_S0 (as := [.ref q8, .ref q9]) (st := []) (d := 0) hO [.ref q9, .ref q8] dX8_ahead_40 sl_X8_89 h (fun F1 hg n => ct_X8_lay hg) ⟨Nat.le_of_ble_eq_true rfl, Nat.le_of_ble_eq_true rfl⟩ ⟨Nat.zero_le _, Nat.zero_le _⟩ (Nat.le_of_ble_eq_true rfl) (fun _ _ => rfl) rfl (fun F10 h => ?_)
      refine pw_iconst hO dX8_ahead_43 (v := 0) (by decide) ?_
      refine pw_istore_n hO [(3, .int 0), (0, .ref a0), (1, .int a1), (2, .int a2)] dX8_ahead_44 (by decide) rfl ?_
      refine pw_sub (lv1 := [(0, .ref a0), (1, .int a1), (2, .int a2), (3, .int 0)]) [1, 2, 3, 0] rfl ?_
      exact bl_X8_ahead_b45 hX gF F10 a0 a1 a2 0 h
    · refine pw_bipush hO dX8_ahead_29 (v := (-2)) (by decide) ?_
      exact pw_iret hO hX.2 dX8_ahead_31 h
theorem ct_X8_ahead {n : Nat} {F : Hp} {a0 : Nat} {a1 : Int32} {a2 : Int32} {rx : Int32} {F' : Hp} (h : g_X8_ahead F a0 a1 a2 = some (rx, F')) : CT yX8_ahead cX8_ahead 4 (some FieldType.int) (rmd 3) n F [.ref a0, .int a1, .int a2] (some (.int rx)) F' :=
  ct_intro (own := RX8) (nm := false) (by decide) rfl (fun h => by cases h) (Nat.le_of_ble_eq_true rfl) (fun X hn hX => bl_X8_ahead hX F a0 a1 a2 h)
def g_X8_letters_b29 (rec4 : Hp → Nat → Int32 → Int32 → Option (Int32 × Hp)) (F : Hp) (v0 : Nat) (v2 : Int32) (s0 : Int32) (s1 : Int32) : Option (Int32 × Hp) := rec4 F v0 ((s0 + s1)) ((v2 + 1))
set_option maxHeartbeats 4000000 in
theorem bl_X8_letters_b29 {X : Cx} {rx : Int32} {F' : Hp} (hX : Md X cX8_letters RX8 3 (rmd 0) (some FieldType.int) false (some (.int rx)) F') (rec4 : Hp → Nat → Int32 → Int32 → Option (Int32 × Hp)) (hrec4 : ∀ (F : Hp) (v0 : Nat) (v1 : Int32) (v2 : Int32), rec4 F v0 v1 v2 = some (rx, F') → PW X 0 0 F 4 [(0, .ref v0), (1, .int v1), (2, .int v2)] []) (F : Hp) (v0 : Nat) (v2 : Int32) (s0 : Int32) (s1 : Int32) (h : g_X8_letters_b29 rec4 F v0 v2 s0 s1 = some (rx, F')) : PW X 0 0 F 29 [(0, .ref v0), (2, .int v2)] [.int s1, .int s0] := by
  have hO := hX.1
  unfold g_X8_letters_b29 at h
  refine pw_iadd hO dX8_letters_29 ?_
  refine pw_istore_n hO [(1, .int (s0 + s1)), (0, .ref v0), (2, .int v2)] dX8_letters_30 (by decide) rfl ?_
  refine pw_iinc hO [(2, .int (v2 + 1)), (1, .int (s0 + s1)), (0, .ref v0)] dX8_letters_31 2 rfl rfl (by decide) rfl ?_
  refine pw_goto (tgt := 4) hO dX8_letters_34 (by decide) ?_
  refine pw_sub (lv1 := [(0, .ref v0), (1, .int (s0 + s1)), (2, .int (v2 + 1))]) [2, 1, 0] rfl ?_
  exact hrec4 F v0 ((s0 + s1)) ((v2 + 1)) h
def g_X8_letters_b4 : Nat → Hp → Nat → Int32 → Int32 → Option (Int32 × Hp)
  | 0, _, _, _, _ => none
  | n + 1, F, v0, v1, v2 => ((gI F v0 8 10).bind fun x1 => (if x1 ≤ v2 then some (v1, F) else ((gR F v0 8 9).bind fun q3 => ((aI F q3 0 v2).bind fun x4 => (if x4 ≤ 9 then g_X8_letters_b29 (g_X8_letters_b4 n) F v0 v2 v1 0 else g_X8_letters_b29 (g_X8_letters_b4 n) F v0 v2 v1 1)))))
set_option maxHeartbeats 4000000 in
theorem bl_X8_letters_b4 {X : Cx} {rx : Int32} {F' : Hp} (hX : Md X cX8_letters RX8 3 (rmd 0) (some FieldType.int) false (some (.int rx)) F') : ∀ (n : Nat) (F : Hp) (v0 : Nat) (v1 : Int32) (v2 : Int32), g_X8_letters_b4 n F v0 v1 v2 = some (rx, F') → PW X 0 0 F 4 [(0, .ref v0), (1, .int v1), (2, .int v2)] [] := by
  have hO := hX.1
  intro n
  induction n with
  | zero => intro F v0 v1 v2 h; rw [g_X8_letters_b4] at h; cases h
  | succ n ih =>
    intro F v0 v1 v2 h
    rw [g_X8_letters_b4] at h
    refine pw_iload_n hO dX8_letters_4 2 rfl ?_
    refine pw_aload_n hO dX8_letters_5 0 rfl ?_
    refine pw_getI hO dX8_letters_6 fl_X8_130 h (fun x1 h => ?_)
    refine pw_icmp_ge (tgt := 37) hO dX8_letters_9 (by decide) h (fun c2 h => ?_) (fun c2 h => ?_)
    · refine pw_iload_n hO dX8_letters_37 1 rfl ?_
      exact pw_iret hO hX.2 dX8_letters_38 h
    · refine pw_iload_n hO dX8_letters_12 1 rfl ?_
      refine pw_aload_n hO dX8_letters_13 0 rfl ?_
      refine pw_getR hO dX8_letters_14 fl_X8_25 h (fun q3 h => ?_)
      refine pw_iload_n hO dX8_letters_17 2 rfl ?_
      refine pw_iald hO dX8_letters_18 h (fun x4 h => ?_)
      refine pw_bipush hO dX8_letters_19 (v := 9) (by decide) ?_
      refine pw_icmp_le (tgt := 28) hO dX8_letters_21 (by decide) h (fun c5 h => ?_) (fun c5 h => ?_)
      · refine pw_iconst hO dX8_letters_28 (v := 0) (by decide) ?_
        refine pw_sub (lv1 := [(0, .ref v0), (2, .int v2)]) [0, 2] rfl ?_
        exact bl_X8_letters_b29 hX (g_X8_letters_b4 n) ih F v0 v2 v1 0 h
      · refine pw_iconst hO dX8_letters_24 (v := 1) (by decide) ?_
        refine pw_goto (tgt := 29) hO dX8_letters_25 (by decide) ?_
        refine pw_sub (lv1 := [(0, .ref v0), (2, .int v2)]) [0, 2] rfl ?_
        exact bl_X8_letters_b29 hX (g_X8_letters_b4 n) ih F v0 v2 v1 1 h
def g_X8_letters (F : Hp) (a0 : Nat) : Option (Int32 × Hp) := g_X8_letters_b4 gF F a0 0 0
set_option maxHeartbeats 4000000 in
theorem bl_X8_letters {X : Cx} {rx : Int32} {F' : Hp} (hX : Md X cX8_letters RX8 3 (rmd 0) (some FieldType.int) false (some (.int rx)) F') (F : Hp) (a0 : Nat) (h : g_X8_letters F a0 = some (rx, F')) : PW X 0 0 F 0 [(0, .ref a0)] [] := by
  have hO := hX.1
  unfold g_X8_letters at h
  refine pw_iconst hO dX8_letters_0 (v := 0) (by decide) ?_
  refine pw_istore_n hO [(1, .int 0), (0, .ref a0)] dX8_letters_1 (by decide) rfl ?_
  refine pw_iconst hO dX8_letters_2 (v := 0) (by decide) ?_
  refine pw_istore_n hO [(2, .int 0), (1, .int 0), (0, .ref a0)] dX8_letters_3 (by decide) rfl ?_
  refine pw_sub (lv1 := [(0, .ref a0), (1, .int 0), (2, .int 0)]) [2, 1, 0] rfl ?_
  exact bl_X8_letters_b4 hX gF F a0 0 0 h
theorem ct_X8_letters {n : Nat} {F : Hp} {a0 : Nat} {rx : Int32} {F' : Hp} (h : g_X8_letters F a0 = some (rx, F')) : CT yX8_letters cX8_letters 3 (some FieldType.int) (rmd 0) n F [.ref a0] (some (.int rx)) F' :=
  ct_intro (own := RX8) (nm := false) (by decide) rfl (fun h => by cases h) (Nat.le_of_ble_eq_true rfl) (fun X hn hX => bl_X8_letters hX F a0 h)
def g_X8_play (F : Hp) (a0 : Nat) (a1 : Int32) : Option (Int32 × Hp) := ((pV F a0 8 0 (.int 0)).bind fun F1 => (ckO F1 a0 8 (bnd2 (g_X8_pricePlay F1 a0) fun x3 F2 => (if a1 = 0 then some (x3, F2) else (if a1 = 1 then ((gR F2 a0 8 11).bind fun q6 => ((aI F2 q6 0 4).bind fun x7 => some (x7, F2))) else (if a1 = 2 then ((gR F2 a0 8 11).bind fun q9 => ((aI F2 q9 0 6).bind fun x10 => some (x10, F2))) else (if a1 = 3 then ((gR F2 a0 8 11).bind fun q12 => ((aI F2 q12 0 8).bind fun x13 => some (x13, F2))) else (if a1 = 4 then ((gR F2 a0 8 11).bind fun q15 => ((aI F2 q15 0 3).bind fun x16 => some (x16, F2))) else (if a1 = 5 then (ckO F2 a0 8 (bnd2 (g_X8_letters F2 a0) fun x19 F18 => some (x19, F18))) else some ((-2), F2))))))))))
set_option maxHeartbeats 4000000 in
theorem bl_X8_play {X : Cx} {rx : Int32} {F' : Hp} (hX : Md X cX8_play RX8 3 (rmd 6) (some FieldType.int) false (some (.int rx)) F') (F : Hp) (a0 : Nat) (a1 : Int32) (h : g_X8_play F a0 a1 = some (rx, F')) : PW X 0 0 F 0 [(0, .ref a0), (1, .int a1)] [] := by
  have hO := hX.1
  unfold g_X8_play at h
  refine pw_aload_n hO dX8_play_0 0 rfl ?_
  refine pw_iconst hO dX8_play_1 (v := 0) (by decide) ?_
  refine pw_putI hO dX8_play_2 fp_X8_58 h (fun F1 h => ?_)
  refine pw_aload_n hO dX8_play_5 0 rfl ?_
  refine pw_VI (a := a0) (ci := 8) (as := []) (st := []) (d := 5) hO [.ref a0] dX8_play_6 vl_X8_146 h (fun r F1 hg n => ct_X8_pricePlay hg) ⟨Nat.le_of_ble_eq_true rfl, Nat.le_of_ble_eq_true rfl⟩ ⟨Nat.zero_le _, Nat.zero_le _⟩ (Nat.le_of_ble_eq_true rfl) (fun _ _ => rfl) rfl (fun x3 F2 h => ?_)
  refine pw_istore_n hO [(2, .int x3), (0, .ref a0), (1, .int a1)] dX8_play_9 (by decide) rfl ?_
  refine pw_iload_n hO dX8_play_10 2 rfl ?_
  refine pw_sw h (fun c4 h => ?_) (fun c4 h => ?_)
  · refine pw_tin (tgt := 48) hO dX8_play_11 c4 (by decide) (by decide) (by rfl) (by decide) ?_
    refine pw_iload_n hO dX8_play_48 0 rfl ?_
    exact pw_iret hO hX.2 dX8_play_49 h
  refine pw_sw h (fun c5 h => ?_) (fun c5 h => ?_)
  · refine pw_tin (tgt := 50) hO dX8_play_11 c5 (by decide) (by decide) (by rfl) (by decide) ?_
    refine pw_aload_n hO dX8_play_50 1 rfl ?_
    refine pw_getR hO dX8_play_51 fl_X8_28 h (fun q6 h => ?_)
    refine pw_iconst hO dX8_play_54 (v := 4) (by decide) ?_
    refine pw_iald hO dX8_play_55 h (fun x7 h => ?_)
    exact pw_iret hO hX.2 dX8_play_56 h
  refine pw_sw h (fun c8 h => ?_) (fun c8 h => ?_)
  · refine pw_tin (tgt := 57) hO dX8_play_11 c8 (by decide) (by decide) (by rfl) (by decide) ?_
    refine pw_aload_n hO dX8_play_57 1 rfl ?_
    refine pw_getR hO dX8_play_58 fl_X8_28 h (fun q9 h => ?_)
    refine pw_bipush hO dX8_play_61 (v := 6) (by decide) ?_
    refine pw_iald hO dX8_play_63 h (fun x10 h => ?_)
    exact pw_iret hO hX.2 dX8_play_64 h
  refine pw_sw h (fun c11 h => ?_) (fun c11 h => ?_)
  · refine pw_tin (tgt := 65) hO dX8_play_11 c11 (by decide) (by decide) (by rfl) (by decide) ?_
    refine pw_aload_n hO dX8_play_65 1 rfl ?_
    refine pw_getR hO dX8_play_66 fl_X8_28 h (fun q12 h => ?_)
    refine pw_bipush hO dX8_play_69 (v := 8) (by decide) ?_
    refine pw_iald hO dX8_play_71 h (fun x13 h => ?_)
    exact pw_iret hO hX.2 dX8_play_72 h
  refine pw_sw h (fun c14 h => ?_) (fun c14 h => ?_)
  · refine pw_tin (tgt := 73) hO dX8_play_11 c14 (by decide) (by decide) (by rfl) (by decide) ?_
    refine pw_aload_n hO dX8_play_73 1 rfl ?_
    refine pw_getR hO dX8_play_74 fl_X8_28 h (fun q15 h => ?_)
    refine pw_iconst hO dX8_play_77 (v := 3) (by decide) ?_
    refine pw_iald hO dX8_play_78 h (fun x16 h => ?_)
    exact pw_iret hO hX.2 dX8_play_79 h
  refine pw_sw h (fun c17 h => ?_) (fun c17 h => ?_)
  · refine pw_tin (tgt := 80) hO dX8_play_11 c17 (by decide) (by decide) (by rfl) (by decide) ?_
    refine pw_aload_n hO dX8_play_80 1 rfl ?_
    refine pw_VI (a := a0) (ci := 8) (as := []) (st := []) (d := 0) hO [.ref a0] dX8_play_81 vl_X8_171 h (fun r F1 hg n => ct_X8_letters hg) ⟨Nat.le_of_ble_eq_true rfl, Nat.le_of_ble_eq_true rfl⟩ ⟨Nat.zero_le _, Nat.zero_le _⟩ (Nat.le_of_ble_eq_true rfl) (fun _ _ => rfl) rfl (fun x19 F18 h => ?_)
    exact pw_iret hO hX.2 dX8_play_84 h
  refine pw_tout (tgt := 85) hO dX8_play_11 (by have e0 := lv_neT (a := 0) c4 (by decide); have e1 := lv_neT (a := 1) c5 (by decide); have e2 := lv_neT (a := 2) c8 (by decide); have e3 := lv_neT (a := 3) c11 (by decide); have e4 := lv_neT (a := 4) c14 (by decide); have e5 := lv_neT (a := 5) c17 (by decide); omega) (by decide) ?_
  refine pw_bipush hO dX8_play_85 (v := (-2)) (by decide) ?_
  exact pw_iret hO hX.2 dX8_play_87 h
theorem ct_X8_play {n : Nat} {F : Hp} {a0 : Nat} {a1 : Int32} {rx : Int32} {F' : Hp} (h : g_X8_play F a0 a1 = some (rx, F')) : CT yX8_play cX8_play 3 (some FieldType.int) (rmd 6) n F [.ref a0, .int a1] (some (.int rx)) F' :=
  ct_intro (own := RX8) (nm := false) (by decide) rfl (fun h => by cases h) (Nat.le_of_ble_eq_true rfl) (fun X hn hX => bl_X8_play hX F a0 a1 h)
def g_X8_does_b128 (F : Hp) (v4 : Int32) : Option (Int32 × Hp) := (bnd2 (g_X8_in F (Int32.toInt64 v4) (1 : Int64) (20 : Int64)) fun x17 F16 => (if x17 = 0 ∨ x17 = 1 then some (x17, F16) else none))
set_option maxHeartbeats 4000000 in
theorem bl_X8_does_b128 {X : Cx} {rx : Int32} {F' : Hp} (hX : Md X cX8_does RX8 7 (rmd 3) (some FieldType.boolean) false (some (.int rx)) F') (F : Hp) (v4 : Int32) (h : g_X8_does_b128 F v4 = some (rx, F')) : PW X 0 0 F 128 [(4, .int v4)] [] := by
  have hO := hX.1
  unfold g_X8_does_b128 at h
  refine pw_iload hO dX8_does_128 0 rfl ?_
  refine pw_i2l hO dX8_does_130 ?_
  refine pw_lconst hO dX8_does_131 (v := (1 : Int64)) (by decide) ?_
  refine pw_ldc2 hO dX8_does_132 kl_X8_161 ?_
  refine pw_SI (as := [.long (Int32.toInt64 v4), .long (1 : Int64), .long (20 : Int64)]) (st := []) (d := 0) hO [.long (20 : Int64), .long (1 : Int64), .long (Int32.toInt64 v4)] dX8_does_135 sl_X8_61 h (fun r F1 hg n => ct_X8_in hg) ⟨Nat.le_of_ble_eq_true rfl, Nat.le_of_ble_eq_true rfl⟩ ⟨Nat.zero_le _, Nat.zero_le _⟩ (Nat.le_of_ble_eq_true rfl) (fun _ _ => rfl) rfl (fun x17 F16 h => ?_)
  exact pw_zret hO hX.2 dX8_does_138 h
def g_X8_does_b100 : Nat → Hp → Nat → Int32 → Int32 → Option (Int32 × Hp)
  | 0, _, _, _, _ => none
  | n + 1, F, v0, v4, v6 => (if v4 ≤ v6 then g_X8_does_b128 F v4 else (if 21 ≤ v4 then g_X8_does_b128 F v4 else ((gR F v0 8 11).bind fun q19 => (ckO F v0 8 ((g_X8_tick F v0 q19).bind fun F20 => g_X8_does_b100 n F20 v0 v4 ((v6 + 1)))))))
set_option maxHeartbeats 4000000 in
theorem bl_X8_does_b100 {X : Cx} {rx : Int32} {F' : Hp} (hX : Md X cX8_does RX8 7 (rmd 3) (some FieldType.boolean) false (some (.int rx)) F') : ∀ (n : Nat) (F : Hp) (v0 : Nat) (v4 : Int32) (v6 : Int32), g_X8_does_b100 n F v0 v4 v6 = some (rx, F') → PW X 0 0 F 100 [(0, .ref v0), (4, .int v4), (6, .int v6)] [] := by
  have hO := hX.1
  intro n
  induction n with
  | zero => intro F v0 v4 v6 h; rw [g_X8_does_b100] at h; cases h
  | succ n ih =>
    intro F v0 v4 v6 h
    rw [g_X8_does_b100] at h
    refine pw_iload hO dX8_does_100 2 rfl ?_
    refine pw_iload hO dX8_does_102 1 rfl ?_
    refine pw_icmp_ge (tgt := 128) hO dX8_does_104 (by decide) h (fun c15 h => ?_) (fun c15 h => ?_)
    · refine pw_sub (lv1 := [(4, .int v4)]) [1] rfl ?_
      exact bl_X8_does_b128 hX F v4 h
    · refine pw_iload hO dX8_does_107 1 rfl ?_
      refine pw_bipush hO dX8_does_109 (v := 21) (by decide) ?_
      refine pw_icmp_ge (tgt := 128) hO dX8_does_111 (by decide) h (fun c18 h => ?_) (fun c18 h => ?_)
      · refine pw_sub (lv1 := [(4, .int v4)]) [1] rfl ?_
        exact bl_X8_does_b128 hX F v4 h
      · refine pw_aload_n hO dX8_does_114 0 rfl ?_
        refine pw_aload_n hO dX8_does_115 0 rfl ?_
        refine pw_getR hO dX8_does_116 fl_X8_28 h (fun q19 h => ?_)
        refine pw_V0 (a := v0) (ci := 8) (as := [.ref q19]) (st := []) (d := 2) hO [.ref q19, .ref v0] dX8_does_119 vl_X8_96 h (fun F1 hg n => ct_X8_tick hg) ⟨Nat.le_of_ble_eq_true rfl, Nat.le_of_ble_eq_true rfl⟩ ⟨Nat.zero_le _, Nat.zero_le _⟩ (Nat.le_of_ble_eq_true rfl) (fun _ _ => rfl) rfl (fun F20 h => ?_)
        refine pw_iinc hO [(6, .int (v6 + 1)), (0, .ref v0), (4, .int v4)] dX8_does_122 2 rfl rfl (by decide) rfl ?_
        refine pw_goto (tgt := 100) hO dX8_does_125 (by decide) ?_
        refine pw_sub (lv1 := [(0, .ref v0), (4, .int v4), (6, .int (v6 + 1))]) [1, 2, 0] rfl ?_
        exact ih F20 v0 v4 ((v6 + 1)) h
def g_X8_does_b214 (F : Hp) (s0 : Int32) (s1 : Int32) : Option (Int32 × Hp) := (if s0 = s1 then some (1, F) else some (0, F))
set_option maxHeartbeats 4000000 in
theorem bl_X8_does_b214 {X : Cx} {rx : Int32} {F' : Hp} (hX : Md X cX8_does RX8 7 (rmd 3) (some FieldType.boolean) false (some (.int rx)) F') (F : Hp) (s0 : Int32) (s1 : Int32) (h : g_X8_does_b214 F s0 s1 = some (rx, F')) : PW X 0 0 F 214 [] [.int s1, .int s0] := by
  have hO := hX.1
  unfold g_X8_does_b214 at h
  refine pw_icmp_ne (tgt := 221) hO dX8_does_214 (by decide) h (fun c41 h => ?_) (fun c41 h => ?_)
  · refine pw_iconst hO dX8_does_221 (v := 0) (by decide) ?_
    exact pw_zretc hO hX.2 dX8_does_222 (Or.inl rfl) h
  · refine pw_iconst hO dX8_does_217 (v := 1) (by decide) ?_
    refine pw_goto (tgt := 222) hO dX8_does_218 (by decide) ?_
    exact pw_zretc hO hX.2 dX8_does_222 (Or.inr rfl) h
def g_X8_does_b20 (F : Hp) (v0 : Nat) (v1 : Int32) (v2 : Int32) (v3 : Int32) (v4 : Int32) (s0 : Int32) : Option (Int32 × Hp) := (if v1 = 1 then (if s0 = 0 then some (0, F) else (if v3 = 0 then ((gR F v0 8 11).bind fun q7 => (bnd2 (g_X8_isFull F q7 v2) fun x9 F8 => (if x9 = 0 then ((gR F8 v0 8 11).bind fun q11 => ((g_X8_comeOn F8 q11 v2 0).bind fun F12 => some (1, F12))) else some (0, F8)))) else some (0, F))) else (if v1 = 2 then g_X8_does_b100 gF F v0 v4 0 else (if v1 = 3 then (if v2 = 0 then ((gR F v0 8 11).bind fun q24 => ((aI F q24 0 0).bind fun x25 => (if x25 = v3 then some (1, F) else some (0, F)))) else some (0, F)) else (if v1 = 4 then (if s0 = 0 then some (0, F) else ((gR F v0 8 11).bind fun q29 => (bnd2 (g_X8_at F v2) fun x31 F30 => ((aI F30 q29 0 (x31 + 4)).bind fun x32 => (if x32 = v3 then some (1, F30) else some (0, F30)))))) else (if v1 = 5 then (if s0 = 0 then some (0, F) else (if 2 ≤ v3 then some (0, F) else ((gR F v0 8 11).bind fun q37 => (ckO F v0 8 (bnd2 (g_X8_isDue F v0 q37 v2) fun x39 F38 => (if v3 = 1 then g_X8_does_b214 F38 x39 1 else g_X8_does_b214 F38 x39 0)))))) else (if v1 = 6 then ((gR F v0 8 11).bind fun q43 => ((aI F q43 0 5).bind fun x44 => (if x44 = v4 then some (1, F) else some (0, F)))) else (if v1 = 7 then (if s0 = 0 then some (0, F) else (if v3 = 0 then some (0, F) else ((gR F v0 8 11).bind fun q49 => (bnd2 (g_X8_at F v2) fun x51 F50 => ((sI F50 q49 0 (x51 + 1) v3).bind fun F52 => some (1, F52)))))) else some (0, F))))))))
set_option maxHeartbeats 4000000 in
theorem bl_X8_does_b20 {X : Cx} {rx : Int32} {F' : Hp} (hX : Md X cX8_does RX8 7 (rmd 3) (some FieldType.boolean) false (some (.int rx)) F') (F : Hp) (v0 : Nat) (v1 : Int32) (v2 : Int32) (v3 : Int32) (v4 : Int32) (s0 : Int32) (h : g_X8_does_b20 F v0 v1 v2 v3 v4 s0 = some (rx, F')) : PW X 0 0 F 20 [(0, .ref v0), (1, .int v1), (2, .int v2), (3, .int v3), (4, .int v4)] [.int s0] := by
  have hO := hX.1
  unfold g_X8_does_b20 at h
  refine pw_istore hO [(5, .int s0), (0, .ref v0), (1, .int v1), (2, .int v2), (3, .int v3), (4, .int v4)] dX8_does_20 (by decide) rfl ?_
  refine pw_iload_n hO dX8_does_22 2 rfl ?_
  refine pw_sw h (fun c4 h => ?_) (fun c4 h => ?_)
  · refine pw_tin (tgt := 64) hO dX8_does_23 c4 (by decide) (by decide) (by rfl) (by decide) ?_
    refine pw_iload hO dX8_does_64 0 rfl ?_
    refine pw_if_eq (tgt := 84) hO dX8_does_66 (by decide) h (fun c5 h => ?_) (fun c5 h => ?_)
    · refine pw_iconst hO dX8_does_84 (v := 0) (by decide) ?_
      exact pw_zretc hO hX.2 dX8_does_85 (Or.inl rfl) h
    · refine pw_iload_n hO dX8_does_69 4 rfl ?_
      refine pw_if_ne (tgt := 84) hO dX8_does_70 (by decide) h (fun c6 h => ?_) (fun c6 h => ?_)
      · refine pw_iconst hO dX8_does_84 (v := 0) (by decide) ?_
        exact pw_zretc hO hX.2 dX8_does_85 (Or.inl rfl) h
      · refine pw_aload_n hO dX8_does_73 1 rfl ?_
        refine pw_getR hO dX8_does_74 fl_X8_28 h (fun q7 h => ?_)
        refine pw_iload_n hO dX8_does_77 3 rfl ?_
        refine pw_SI (as := [.ref q7, .int v2]) (st := []) (d := 1) hO [.int v2, .ref q7] dX8_does_78 sl_X8_123 h (fun r F1 hg n => ct_X8_isFull hg) ⟨Nat.le_of_ble_eq_true rfl, Nat.le_of_ble_eq_true rfl⟩ ⟨Nat.zero_le _, Nat.zero_le _⟩ (Nat.le_of_ble_eq_true rfl) (fun _ _ => rfl) rfl (fun x9 F8 h => ?_)
        refine pw_if_eq (tgt := 86) hO dX8_does_81 (by decide) h (fun c10 h => ?_) (fun c10 h => ?_)
        · refine pw_aload_n hO dX8_does_86 1 rfl ?_
          refine pw_getR hO dX8_does_87 fl_X8_28 h (fun q11 h => ?_)
          refine pw_iload_n hO dX8_does_90 3 rfl ?_
          refine pw_iconst hO dX8_does_91 (v := 0) (by decide) ?_
          refine pw_S0 (as := [.ref q11, .int v2, .int 0]) (st := []) (d := 1) hO [.int 0, .int v2, .ref q11] dX8_does_92 sl_X8_126 h (fun F1 hg n => ct_X8_comeOn hg) ⟨Nat.le_of_ble_eq_true rfl, Nat.le_of_ble_eq_true rfl⟩ ⟨Nat.zero_le _, Nat.zero_le _⟩ (Nat.le_of_ble_eq_true rfl) (fun _ _ => rfl) rfl (fun F12 h => ?_)
          refine pw_iconst hO dX8_does_95 (v := 1) (by decide) ?_
          exact pw_zretc hO hX.2 dX8_does_96 (Or.inr rfl) h
        · refine pw_iconst hO dX8_does_84 (v := 0) (by decide) ?_
          exact pw_zretc hO hX.2 dX8_does_85 (Or.inl rfl) h
  refine pw_sw h (fun c14 h => ?_) (fun c14 h => ?_)
  · refine pw_tin (tgt := 97) hO dX8_does_23 c14 (by decide) (by decide) (by rfl) (by decide) ?_
    refine pw_iconst hO dX8_does_97 (v := 0) (by decide) ?_
    refine pw_istore hO [(6, .int 0), (5, .int s0), (0, .ref v0), (1, .int v1), (2, .int v2), (3, .int v3), (4, .int v4)] dX8_does_98 (by decide) rfl ?_
    refine pw_sub (lv1 := [(0, .ref v0), (4, .int v4), (6, .int 0)]) [2, 6, 0] rfl ?_
    exact bl_X8_does_b100 hX gF F v0 v4 0 h
  refine pw_sw h (fun c22 h => ?_) (fun c22 h => ?_)
  · refine pw_tin (tgt := 139) hO dX8_does_23 c22 (by decide) (by decide) (by rfl) (by decide) ?_
    refine pw_iload_n hO dX8_does_139 3 rfl ?_
    refine pw_if_ne (tgt := 157) hO dX8_does_140 (by decide) h (fun c23 h => ?_) (fun c23 h => ?_)
    · refine pw_iconst hO dX8_does_157 (v := 0) (by decide) ?_
      exact pw_zretc hO hX.2 dX8_does_158 (Or.inl rfl) h
    · refine pw_aload_n hO dX8_does_143 1 rfl ?_
      refine pw_getR hO dX8_does_144 fl_X8_28 h (fun q24 h => ?_)
      refine pw_iconst hO dX8_does_147 (v := 0) (by decide) ?_
      refine pw_iald hO dX8_does_148 h (fun x25 h => ?_)
      refine pw_iload_n hO dX8_does_149 4 rfl ?_
      refine pw_icmp_ne (tgt := 157) hO dX8_does_150 (by decide) h (fun c26 h => ?_) (fun c26 h => ?_)
      · refine pw_iconst hO dX8_does_157 (v := 0) (by decide) ?_
        exact pw_zretc hO hX.2 dX8_does_158 (Or.inl rfl) h
      · refine pw_iconst hO dX8_does_153 (v := 1) (by decide) ?_
        refine pw_goto (tgt := 158) hO dX8_does_154 (by decide) ?_
        exact pw_zretc hO hX.2 dX8_does_158 (Or.inr rfl) h
  refine pw_sw h (fun c27 h => ?_) (fun c27 h => ?_)
  · refine pw_tin (tgt := 159) hO dX8_does_23 c27 (by decide) (by decide) (by rfl) (by decide) ?_
    refine pw_iload hO dX8_does_159 0 rfl ?_
    refine pw_if_eq (tgt := 183) hO dX8_does_161 (by decide) h (fun c28 h => ?_) (fun c28 h => ?_)
    · refine pw_iconst hO dX8_does_183 (v := 0) (by decide) ?_
      exact pw_zretc hO hX.2 dX8_does_184 (Or.inl rfl) h
    · refine pw_aload_n hO dX8_does_164 1 rfl ?_
      refine pw_getR hO dX8_does_165 fl_X8_28 h (fun q29 h => ?_)
      refine pw_iload_n hO dX8_does_168 3 rfl ?_
      refine pw_SI (as := [.int v2]) (st := [.ref q29]) (d := 0) hO [.int v2, .ref q29] dX8_does_169 sl_X8_65 h (fun r F1 hg n => ct_X8_at hg) ⟨Nat.le_of_ble_eq_true rfl, Nat.le_of_ble_eq_true rfl⟩ ⟨Nat.zero_le _, Nat.zero_le _⟩ (Nat.le_of_ble_eq_true rfl) (fun _ _ => rfl) rfl (fun x31 F30 h => ?_)
      refine pw_iconst hO dX8_does_172 (v := 4) (by decide) ?_
      refine pw_iadd hO dX8_does_173 ?_
      refine pw_iald hO dX8_does_174 h (fun x32 h => ?_)
      refine pw_iload_n hO dX8_does_175 4 rfl ?_
      refine pw_icmp_ne (tgt := 183) hO dX8_does_176 (by decide) h (fun c33 h => ?_) (fun c33 h => ?_)
      · refine pw_iconst hO dX8_does_183 (v := 0) (by decide) ?_
        exact pw_zretc hO hX.2 dX8_does_184 (Or.inl rfl) h
      · refine pw_iconst hO dX8_does_179 (v := 1) (by decide) ?_
        refine pw_goto (tgt := 184) hO dX8_does_180 (by decide) ?_
        exact pw_zretc hO hX.2 dX8_does_184 (Or.inr rfl) h
  refine pw_sw h (fun c34 h => ?_) (fun c34 h => ?_)
  · refine pw_tin (tgt := 185) hO dX8_does_23 c34 (by decide) (by decide) (by rfl) (by decide) ?_
    refine pw_iload hO dX8_does_185 0 rfl ?_
    refine pw_if_eq (tgt := 221) hO dX8_does_187 (by decide) h (fun c35 h => ?_) (fun c35 h => ?_)
    · refine pw_iconst hO dX8_does_221 (v := 0) (by decide) ?_
      exact pw_zretc hO hX.2 dX8_does_222 (Or.inl rfl) h
    · refine pw_iload_n hO dX8_does_190 4 rfl ?_
      refine pw_iconst hO dX8_does_191 (v := 2) (by decide) ?_
      refine pw_icmp_ge (tgt := 221) hO dX8_does_192 (by decide) h (fun c36 h => ?_) (fun c36 h => ?_)
      · refine pw_iconst hO dX8_does_221 (v := 0) (by decide) ?_
        exact pw_zretc hO hX.2 dX8_does_222 (Or.inl rfl) h
      · refine pw_aload_n hO dX8_does_195 1 rfl ?_
        refine pw_aload_n hO dX8_does_196 1 rfl ?_
        refine pw_getR hO dX8_does_197 fl_X8_28 h (fun q37 h => ?_)
        refine pw_iload_n hO dX8_does_200 3 rfl ?_
        refine pw_VI (a := v0) (ci := 8) (as := [.ref q37, .int v2]) (st := []) (d := 1) hO [.int v2, .ref q37, .ref v0] dX8_does_201 vl_X8_81 h (fun r F1 hg n => ct_X8_isDue hg) ⟨Nat.le_of_ble_eq_true rfl, Nat.le_of_ble_eq_true rfl⟩ ⟨Nat.zero_le _, Nat.zero_le _⟩ (Nat.le_of_ble_eq_true rfl) (fun _ _ => rfl) rfl (fun x39 F38 h => ?_)
        refine pw_iload_n hO dX8_does_204 4 rfl ?_
        refine pw_iconst hO dX8_does_205 (v := 1) (by decide) ?_
        refine pw_icmp_ne (tgt := 213) hO dX8_does_206 (by decide) h (fun c40 h => ?_) (fun c40 h => ?_)
        · refine pw_iconst hO dX8_does_213 (v := 0) (by decide) ?_
          refine pw_sub (lv1 := []) [] rfl ?_
          exact bl_X8_does_b214 hX F38 x39 0 h
        · refine pw_iconst hO dX8_does_209 (v := 1) (by decide) ?_
          refine pw_goto (tgt := 214) hO dX8_does_210 (by decide) ?_
          refine pw_sub (lv1 := []) [] rfl ?_
          exact bl_X8_does_b214 hX F38 x39 1 h
  refine pw_sw h (fun c42 h => ?_) (fun c42 h => ?_)
  · refine pw_tin (tgt := 223) hO dX8_does_23 c42 (by decide) (by decide) (by rfl) (by decide) ?_
    refine pw_aload_n hO dX8_does_223 1 rfl ?_
    refine pw_getR hO dX8_does_224 fl_X8_28 h (fun q43 h => ?_)
    refine pw_iconst hO dX8_does_227 (v := 5) (by decide) ?_
    refine pw_iald hO dX8_does_228 h (fun x44 h => ?_)
    refine pw_iload hO dX8_does_229 5 rfl ?_
    refine pw_icmp_ne (tgt := 238) hO dX8_does_231 (by decide) h (fun c45 h => ?_) (fun c45 h => ?_)
    · refine pw_iconst hO dX8_does_238 (v := 0) (by decide) ?_
      exact pw_zretc hO hX.2 dX8_does_239 (Or.inl rfl) h
    · refine pw_iconst hO dX8_does_234 (v := 1) (by decide) ?_
      refine pw_goto (tgt := 239) hO dX8_does_235 (by decide) ?_
      exact pw_zretc hO hX.2 dX8_does_239 (Or.inr rfl) h
  refine pw_sw h (fun c46 h => ?_) (fun c46 h => ?_)
  · refine pw_tin (tgt := 240) hO dX8_does_23 c46 (by decide) (by decide) (by rfl) (by decide) ?_
    refine pw_iload hO dX8_does_240 0 rfl ?_
    refine pw_if_eq (tgt := 249) hO dX8_does_242 (by decide) h (fun c47 h => ?_) (fun c47 h => ?_)
    · refine pw_iconst hO dX8_does_249 (v := 0) (by decide) ?_
      exact pw_zretc hO hX.2 dX8_does_250 (Or.inl rfl) h
    · refine pw_iload_n hO dX8_does_245 4 rfl ?_
      refine pw_if_ne (tgt := 251) hO dX8_does_246 (by decide) h (fun c48 h => ?_) (fun c48 h => ?_)
      · refine pw_aload_n hO dX8_does_251 1 rfl ?_
        refine pw_getR hO dX8_does_252 fl_X8_28 h (fun q49 h => ?_)
        refine pw_iload_n hO dX8_does_255 3 rfl ?_
        refine pw_SI (as := [.int v2]) (st := [.ref q49]) (d := 0) hO [.int v2, .ref q49] dX8_does_256 sl_X8_65 h (fun r F1 hg n => ct_X8_at hg) ⟨Nat.le_of_ble_eq_true rfl, Nat.le_of_ble_eq_true rfl⟩ ⟨Nat.zero_le _, Nat.zero_le _⟩ (Nat.le_of_ble_eq_true rfl) (fun _ _ => rfl) rfl (fun x51 F50 h => ?_)
        refine pw_iconst hO dX8_does_259 (v := 1) (by decide) ?_
        refine pw_iadd hO dX8_does_260 ?_
        refine pw_iload_n hO dX8_does_261 4 rfl ?_
        refine pw_iast hO dX8_does_262 h (fun F52 h => ?_)
        refine pw_iconst hO dX8_does_263 (v := 1) (by decide) ?_
        exact pw_zretc hO hX.2 dX8_does_264 (Or.inr rfl) h
      · refine pw_iconst hO dX8_does_249 (v := 0) (by decide) ?_
        exact pw_zretc hO hX.2 dX8_does_250 (Or.inl rfl) h
  refine pw_tout (tgt := 265) hO dX8_does_23 (by have e1 := lv_neT (a := 1) c4 (by decide); have e2 := lv_neT (a := 2) c14 (by decide); have e3 := lv_neT (a := 3) c22 (by decide); have e4 := lv_neT (a := 4) c27 (by decide); have e5 := lv_neT (a := 5) c34 (by decide); have e6 := lv_neT (a := 6) c42 (by decide); have e7 := lv_neT (a := 7) c46 (by decide); omega) (by decide) ?_
  refine pw_iconst hO dX8_does_265 (v := 0) (by decide) ?_
  exact pw_zretc hO hX.2 dX8_does_266 (Or.inl rfl) h
def g_X8_does (F : Hp) (a0 : Nat) (a1 : Int32) (a2 : Int32) (a3 : Int32) : Option (Int32 × Hp) := (bnd2 (g_X8_noEnd F a2) fun x2 F1 => (if x2 = 0 then g_X8_does_b20 F1 a0 a1 a2 a3 (((10 * a2) + a3)) 1 else g_X8_does_b20 F1 a0 a1 a2 a3 (((10 * a2) + a3)) 0))
set_option maxHeartbeats 4000000 in
theorem bl_X8_does {X : Cx} {rx : Int32} {F' : Hp} (hX : Md X cX8_does RX8 7 (rmd 3) (some FieldType.boolean) false (some (.int rx)) F') (F : Hp) (a0 : Nat) (a1 : Int32) (a2 : Int32) (a3 : Int32) (h : g_X8_does F a0 a1 a2 a3 = some (rx, F')) : PW X 0 0 F 0 [(0, .ref a0), (1, .int a1), (2, .int a2), (3, .int a3)] [] := by
  have hO := hX.1
  unfold g_X8_does at h
  refine pw_bipush hO dX8_does_0 (v := 10) (by decide) ?_
  refine pw_iload_n hO dX8_does_2 2 rfl ?_
  refine pw_imul hO dX8_does_3 ?_
  refine pw_iload_n hO dX8_does_4 3 rfl ?_
  refine pw_iadd hO dX8_does_5 ?_
  refine pw_istore hO [(4, .int ((10 * a2) + a3)), (0, .ref a0), (1, .int a1), (2, .int a2), (3, .int a3)] dX8_does_6 (by decide) rfl ?_
  refine pw_iload_n hO dX8_does_8 3 rfl ?_
  refine pw_SI (as := [.int a2]) (st := []) (d := 1) hO [.int a2] dX8_does_9 sl_X8_149 h (fun r F1 hg n => ct_X8_noEnd hg) ⟨Nat.le_of_ble_eq_true rfl, Nat.le_of_ble_eq_true rfl⟩ ⟨Nat.zero_le _, Nat.zero_le _⟩ (Nat.le_of_ble_eq_true rfl) (fun _ _ => rfl) rfl (fun x2 F1 h => ?_)
  refine pw_if_ne (tgt := 19) hO dX8_does_12 (by decide) h (fun c3 h => ?_) (fun c3 h => ?_)
  · refine pw_iconst hO dX8_does_19 (v := 0) (by decide) ?_
    refine pw_sub (lv1 := [(0, .ref a0), (1, .int a1), (2, .int a2), (3, .int a3), (4, .int ((10 * a2) + a3))]) [1, 2, 3, 4, 0] rfl ?_
    exact bl_X8_does_b20 hX F1 a0 a1 a2 a3 (((10 * a2) + a3)) 0 h
  · refine pw_iconst hO dX8_does_15 (v := 1) (by decide) ?_
    refine pw_goto (tgt := 20) hO dX8_does_16 (by decide) ?_
    refine pw_sub (lv1 := [(0, .ref a0), (1, .int a1), (2, .int a2), (3, .int a3), (4, .int ((10 * a2) + a3))]) [1, 2, 3, 4, 0] rfl ?_
    exact bl_X8_does_b20 hX F1 a0 a1 a2 a3 (((10 * a2) + a3)) 1 h
theorem ct_X8_does {n : Nat} {F : Hp} {a0 : Nat} {a1 : Int32} {a2 : Int32} {a3 : Int32} {rx : Int32} {F' : Hp} (h : g_X8_does F a0 a1 a2 a3 = some (rx, F')) : CT yX8_does cX8_does 7 (some FieldType.boolean) (rmd 3) n F [.ref a0, .int a1, .int a2, .int a3] (some (.int rx)) F' :=
  ct_intro (own := RX8) (nm := false) (by decide) rfl (fun h => by cases h) (Nat.le_of_ble_eq_true rfl) (fun X hn hX => bl_X8_does hX F a0 a1 a2 a3 h)
def g_X8_longPower_b5 : Nat → Hp → Int64 → Int32 → Int64 → Int32 → Option (Int64 × Hp)
  | 0, _, _, _, _, _ => none
  | n + 1, F, v0, v2, v3, v5 => (if v2 ≤ v5 then some (v3, F) else g_X8_longPower_b5 n F v0 v2 ((v3 * v0)) ((v5 + 1)))
set_option maxHeartbeats 4000000 in
theorem bl_X8_longPower_b5 {X : Cx} {rx : Int64} {F' : Hp} (hX : Md X cX8_longPower RX8 6 (rmd 0) (some FieldType.long) false (some (.long rx)) F') : ∀ (n : Nat) (F : Hp) (v0 : Int64) (v2 : Int32) (v3 : Int64) (v5 : Int32), g_X8_longPower_b5 n F v0 v2 v3 v5 = some (rx, F') → PW X 0 0 F 5 [(0, .long v0), (2, .int v2), (3, .long v3), (5, .int v5)] [] := by
  have hO := hX.1
  intro n
  induction n with
  | zero => intro F v0 v2 v3 v5 h; rw [g_X8_longPower_b5] at h; cases h
  | succ n ih =>
    intro F v0 v2 v3 v5 h
    rw [g_X8_longPower_b5] at h
    refine pw_iload hO dX8_longPower_5 3 rfl ?_
    refine pw_iload_n hO dX8_longPower_7 1 rfl ?_
    refine pw_icmp_ge (tgt := 21) hO dX8_longPower_8 (by decide) h (fun c1 h => ?_) (fun c1 h => ?_)
    · refine pw_lload_n hO dX8_longPower_21 2 rfl ?_
      exact pw_lret hO hX.2 dX8_longPower_22 h
    · refine pw_lload_n hO dX8_longPower_11 2 rfl ?_
      refine pw_lload_n hO dX8_longPower_12 0 rfl ?_
      refine pw_lmul hO dX8_longPower_13 ?_
      refine pw_lstore_n hO [(3, .long (v3 * v0)), (0, .long v0), (2, .int v2), (5, .int v5)] dX8_longPower_14 (by decide) rfl ?_
      refine pw_iinc hO [(5, .int (v5 + 1)), (3, .long (v3 * v0)), (0, .long v0), (2, .int v2)] dX8_longPower_15 3 rfl rfl (by decide) rfl ?_
      refine pw_goto (tgt := 5) hO dX8_longPower_18 (by decide) ?_
      refine pw_sub (lv1 := [(0, .long v0), (2, .int v2), (3, .long (v3 * v0)), (5, .int (v5 + 1))]) [2, 3, 1, 0] rfl ?_
      exact ih F v0 v2 ((v3 * v0)) ((v5 + 1)) h
def g_X8_longPower (F : Hp) (a0 : Int64) (a1 : Int32) : Option (Int64 × Hp) := g_X8_longPower_b5 gF F a0 a1 ((1 : Int64)) 0
set_option maxHeartbeats 4000000 in
theorem bl_X8_longPower {X : Cx} {rx : Int64} {F' : Hp} (hX : Md X cX8_longPower RX8 6 (rmd 0) (some FieldType.long) false (some (.long rx)) F') (F : Hp) (a0 : Int64) (a1 : Int32) (h : g_X8_longPower F a0 a1 = some (rx, F')) : PW X 0 0 F 0 [(0, .long a0), (2, .int a1)] [] := by
  have hO := hX.1
  unfold g_X8_longPower at h
  refine pw_lconst hO dX8_longPower_0 (v := (1 : Int64)) (by decide) ?_
  refine pw_lstore_n hO [(3, .long (1 : Int64)), (0, .long a0), (2, .int a1)] dX8_longPower_1 (by decide) rfl ?_
  refine pw_iconst hO dX8_longPower_2 (v := 0) (by decide) ?_
  refine pw_istore hO [(5, .int 0), (3, .long (1 : Int64)), (0, .long a0), (2, .int a1)] dX8_longPower_3 (by decide) rfl ?_
  refine pw_sub (lv1 := [(0, .long a0), (2, .int a1), (3, .long (1 : Int64)), (5, .int 0)]) [2, 3, 1, 0] rfl ?_
  exact bl_X8_longPower_b5 hX gF F a0 a1 ((1 : Int64)) 0 h
theorem ct_X8_longPower {n : Nat} {F : Hp} {a0 : Int64} {a1 : Int32} {rx : Int64} {F' : Hp} (h : g_X8_longPower F a0 a1 = some (rx, F')) : CT yX8_longPower cX8_longPower 6 (some FieldType.long) (rmd 0) n F [.long a0, .int a1] (some (.long rx)) F' :=
  ct_intro (own := RX8) (nm := false) (by decide) rfl (fun h => by cases h) (Nat.le_of_ble_eq_true rfl) (fun X hn hX => bl_X8_longPower hX F a0 a1 h)
def g_X8_judge_b51 : Nat → Hp → Nat → Int32 → Int64 → Int32 → Option (Int32 × Hp)
  | 0, _, _, _, _, _ => none
  | n + 1, F, v0, v1, v2, v4 => (if v1 ≤ v4 then some ((-9), F) else (bnd2 (g_X8_longPower F (1000 : Int64) ((v1 - 1) - v4)) fun x16 F15 => (if x16 = 0 then none else (ckO F15 v0 8 (bnd2 (g_X8_does F15 v0 ((Int64.toInt32 (jreml (v2 / x16) (1000 : Int64))) / 100) (jrem ((Int64.toInt32 (jreml (v2 / x16) (1000 : Int64))) / 10) 10) (jrem (Int64.toInt32 (jreml (v2 / x16) (1000 : Int64))) 10)) fun x18 F17 => (if x18 = 0 then some (v4, F17) else g_X8_judge_b51 n F17 v0 v1 v2 ((v4 + 1))))))))
set_option maxHeartbeats 4000000 in
theorem bl_X8_judge_b51 {X : Cx} {rx : Int32} {F' : Hp} (hX : Md X cX8_judge RX8 6 (rmd 4) (some FieldType.int) false (some (.int rx)) F') : ∀ (n : Nat) (F : Hp) (v0 : Nat) (v1 : Int32) (v2 : Int64) (v4 : Int32), g_X8_judge_b51 n F v0 v1 v2 v4 = some (rx, F') → PW X 0 0 F 51 [(0, .ref v0), (1, .int v1), (2, .long v2), (4, .int v4)] [] := by
  have hO := hX.1
  intro n
  induction n with
  | zero => intro F v0 v1 v2 v4 h; rw [g_X8_judge_b51] at h; cases h
  | succ n ih =>
    intro F v0 v1 v2 v4 h
    rw [g_X8_judge_b51] at h
    refine pw_iload hO dX8_judge_51 3 rfl ?_
    refine pw_iload_n hO dX8_judge_53 1 rfl ?_
    refine pw_icmp_ge (tgt := 112) hO dX8_judge_54 (by decide) h (fun c14 h => ?_) (fun c14 h => ?_)
    · refine pw_bipush hO dX8_judge_112 (v := (-9)) (by decide) ?_
      exact pw_iret hO hX.2 dX8_judge_114 h
    · refine pw_lload_n hO dX8_judge_57 2 rfl ?_
      refine pw_ldc2 hO dX8_judge_58 kl_X8_174 ?_
      refine pw_iload_n hO dX8_judge_61 1 rfl ?_
      refine pw_iconst hO dX8_judge_62 (v := 1) (by decide) ?_
      refine pw_isub hO dX8_judge_63 ?_
      refine pw_iload hO dX8_judge_64 3 rfl ?_
      refine pw_isub hO dX8_judge_66 ?_
      refine pw_SL (as := [.long (1000 : Int64), .int ((v1 - 1) - v4)]) (st := [.long v2]) (d := 0) hO [.int ((v1 - 1) - v4), .long (1000 : Int64), .long v2] dX8_judge_67 sl_X8_176 h (fun r F1 hg n => ct_X8_longPower hg) ⟨Nat.le_of_ble_eq_true rfl, Nat.le_of_ble_eq_true rfl⟩ ⟨Nat.zero_le _, Nat.zero_le _⟩ (Nat.le_of_ble_eq_true rfl) (fun _ _ => rfl) rfl (fun x16 F15 h => ?_)
      refine pw_ldiv hO dX8_judge_70 h (fun h => ?_)
      refine pw_ldc2 hO dX8_judge_71 kl_X8_174 ?_
      refine pw_lremc hO dX8_judge_74 (by decide) ?_
      refine pw_l2i hO dX8_judge_75 ?_
      refine pw_istore hO [(5, .int (Int64.toInt32 (jreml (v2 / x16) (1000 : Int64)))), (0, .ref v0), (1, .int v1), (2, .long v2), (4, .int v4)] dX8_judge_76 (by decide) rfl ?_
      refine pw_aload_n hO dX8_judge_78 1 rfl ?_
      refine pw_iload hO dX8_judge_79 0 rfl ?_
      refine pw_bipush hO dX8_judge_81 (v := 100) (by decide) ?_
      refine pw_idivc hO dX8_judge_83 (by decide) ?_
      refine pw_iload hO dX8_judge_84 0 rfl ?_
      refine pw_bipush hO dX8_judge_86 (v := 10) (by decide) ?_
      refine pw_idivc hO dX8_judge_88 (by decide) ?_
      refine pw_bipush hO dX8_judge_89 (v := 10) (by decide) ?_
      refine pw_iremc hO dX8_judge_91 (by decide) ?_
      refine pw_iload hO dX8_judge_92 0 rfl ?_
      refine pw_bipush hO dX8_judge_94 (v := 10) (by decide) ?_
      refine pw_iremc hO dX8_judge_96 (by decide) ?_
      refine pw_VI (a := v0) (ci := 8) (as := [.int ((Int64.toInt32 (jreml (v2 / x16) (1000 : Int64))) / 100), .int (jrem ((Int64.toInt32 (jreml (v2 / x16) (1000 : Int64))) / 10) 10), .int (jrem (Int64.toInt32 (jreml (v2 / x16) (1000 : Int64))) 10)]) (st := []) (d := 3) hO [.int (jrem (Int64.toInt32 (jreml (v2 / x16) (1000 : Int64))) 10), .int (jrem ((Int64.toInt32 (jreml (v2 / x16) (1000 : Int64))) / 10) 10), .int ((Int64.toInt32 (jreml (v2 / x16) (1000 : Int64))) / 100), .ref v0] dX8_judge_97 vl_X8_180 h (fun r F1 hg n => ct_X8_does hg) ⟨Nat.le_of_ble_eq_true rfl, Nat.le_of_ble_eq_true rfl⟩ ⟨Nat.zero_le _, Nat.zero_le _⟩ (Nat.le_of_ble_eq_true rfl) (fun _ _ => rfl) rfl (fun x18 F17 h => ?_)
      refine pw_if_ne (tgt := 106) hO dX8_judge_100 (by decide) h (fun c19 h => ?_) (fun c19 h => ?_)
      · refine pw_iinc hO [(4, .int (v4 + 1)), (5, .int (Int64.toInt32 (jreml (v2 / x16) (1000 : Int64)))), (0, .ref v0), (1, .int v1), (2, .long v2)] dX8_judge_106 4 rfl rfl (by decide) rfl ?_
        refine pw_goto (tgt := 51) hO dX8_judge_109 (by decide) ?_
        refine pw_sub (lv1 := [(0, .ref v0), (1, .int v1), (2, .long v2), (4, .int (v4 + 1))]) [2, 3, 4, 0] rfl ?_
        exact ih F17 v0 v1 v2 ((v4 + 1)) h
      · refine pw_iload hO dX8_judge_103 4 rfl ?_
        exact pw_iret hO hX.2 dX8_judge_105 h
def g_X8_judge (F : Hp) (a0 : Nat) (a1 : Int32) (a2 : Int64) : Option (Int32 × Hp) := ((pV F a0 8 0 (.int 0)).bind fun F1 => (bnd2 (g_X8_in F1 (Int32.toInt64 a1) (1 : Int64) (4 : Int64)) fun x3 F2 => (if x3 = 0 then some ((-2), F2) else (bnd2 (g_X8_longPower F2 (1000 : Int64) a1) fun x6 F5 => (bnd2 (g_X8_in F5 a2 (0 : Int64) (x6 - (1 : Int64))) fun x8 F7 => (if x8 = 0 then some ((-2), F7) else ((gR F7 a0 8 7).bind fun q10 => ((gR F7 a0 8 11).bind fun q11 => ((g_X8_lay F7 q10 q11).bind fun F12 => g_X8_judge_b51 gF F12 a0 a1 a2 0)))))))))
set_option maxHeartbeats 4000000 in
theorem bl_X8_judge {X : Cx} {rx : Int32} {F' : Hp} (hX : Md X cX8_judge RX8 6 (rmd 4) (some FieldType.int) false (some (.int rx)) F') (F : Hp) (a0 : Nat) (a1 : Int32) (a2 : Int64) (h : g_X8_judge F a0 a1 a2 = some (rx, F')) : PW X 0 0 F 0 [(0, .ref a0), (1, .int a1), (2, .long a2)] [] := by
  have hO := hX.1
  unfold g_X8_judge at h
  refine pw_aload_n hO dX8_judge_0 0 rfl ?_
  refine pw_iconst hO dX8_judge_1 (v := 0) (by decide) ?_
  refine pw_putI hO dX8_judge_2 fp_X8_58 h (fun F1 h => ?_)
  refine pw_iload_n hO dX8_judge_5 1 rfl ?_
  refine pw_i2l hO dX8_judge_6 ?_
  refine pw_lconst hO dX8_judge_7 (v := (1 : Int64)) (by decide) ?_
  refine pw_ldc2 hO dX8_judge_8 kl_X8_153 ?_
  refine pw_SI (as := [.long (Int32.toInt64 a1), .long (1 : Int64), .long (4 : Int64)]) (st := []) (d := 0) hO [.long (4 : Int64), .long (1 : Int64), .long (Int32.toInt64 a1)] dX8_judge_11 sl_X8_61 h (fun r F1 hg n => ct_X8_in hg) ⟨Nat.le_of_ble_eq_true rfl, Nat.le_of_ble_eq_true rfl⟩ ⟨Nat.zero_le _, Nat.zero_le _⟩ (Nat.le_of_ble_eq_true rfl) (fun _ _ => rfl) rfl (fun x3 F2 h => ?_)
  refine pw_if_eq (tgt := 34) hO dX8_judge_14 (by decide) h (fun c4 h => ?_) (fun c4 h => ?_)
  · refine pw_bipush hO dX8_judge_34 (v := (-2)) (by decide) ?_
    exact pw_iret hO hX.2 dX8_judge_36 h
  · refine pw_lload_n hO dX8_judge_17 2 rfl ?_
    refine pw_lconst hO dX8_judge_18 (v := (0 : Int64)) (by decide) ?_
    refine pw_ldc2 hO dX8_judge_19 kl_X8_174 ?_
    refine pw_iload_n hO dX8_judge_22 1 rfl ?_
    refine pw_SL (as := [.long (1000 : Int64), .int a1]) (st := [.long (0 : Int64), .long a2]) (d := 0) hO [.int a1, .long (1000 : Int64), .long (0 : Int64), .long a2] dX8_judge_23 sl_X8_176 h (fun r F1 hg n => ct_X8_longPower hg) ⟨Nat.le_of_ble_eq_true rfl, Nat.le_of_ble_eq_true rfl⟩ ⟨Nat.zero_le _, Nat.zero_le _⟩ (Nat.le_of_ble_eq_true rfl) (fun _ _ => rfl) rfl (fun x6 F5 h => ?_)
    refine pw_lconst hO dX8_judge_26 (v := (1 : Int64)) (by decide) ?_
    refine pw_lsub hO dX8_judge_27 ?_
    refine pw_SI (as := [.long a2, .long (0 : Int64), .long (x6 - (1 : Int64))]) (st := []) (d := 0) hO [.long (x6 - (1 : Int64)), .long (0 : Int64), .long a2] dX8_judge_28 sl_X8_61 h (fun r F1 hg n => ct_X8_in hg) ⟨Nat.le_of_ble_eq_true rfl, Nat.le_of_ble_eq_true rfl⟩ ⟨Nat.zero_le _, Nat.zero_le _⟩ (Nat.le_of_ble_eq_true rfl) (fun _ _ => rfl) rfl (fun x8 F7 h => ?_)
    refine pw_if_ne (tgt := 37) hO dX8_judge_31 (by decide) h (fun c9 h => ?_) (fun c9 h => ?_)
    · refine pw_aload_n hO dX8_judge_37 0 rfl ?_
      refine pw_getR hO dX8_judge_38 fl_X8_19 h (fun q10 h => ?_)
      refine pw_aload_n hO dX8_judge_41 0 rfl ?_
      refine pw_getR hO dX8_judge_42 fl_X8_28 h (fun q11 h => ?_)
      refine pw_S0 (as := [.ref q10, .ref q11]) (st := []) (d := 0) hO [.ref q11, .ref q10] dX8_judge_45 sl_X8_89 h (fun F1 hg n => ct_X8_lay hg) ⟨Nat.le_of_ble_eq_true rfl, Nat.le_of_ble_eq_true rfl⟩ ⟨Nat.zero_le _, Nat.zero_le _⟩ (Nat.le_of_ble_eq_true rfl) (fun _ _ => rfl) rfl (fun F12 h => ?_)
      refine pw_iconst hO dX8_judge_48 (v := 0) (by decide) ?_
      refine pw_istore hO [(4, .int 0), (0, .ref a0), (1, .int a1), (2, .long a2)] dX8_judge_49 (by decide) rfl ?_
      refine pw_sub (lv1 := [(0, .ref a0), (1, .int a1), (2, .long a2), (4, .int 0)]) [1, 2, 3, 0] rfl ?_
      exact bl_X8_judge_b51 hX gF F12 a0 a1 a2 0 h
    · refine pw_bipush hO dX8_judge_34 (v := (-2)) (by decide) ?_
      exact pw_iret hO hX.2 dX8_judge_36 h
theorem ct_X8_judge {n : Nat} {F : Hp} {a0 : Nat} {a1 : Int32} {a2 : Int64} {rx : Int32} {F' : Hp} (h : g_X8_judge F a0 a1 a2 = some (rx, F')) : CT yX8_judge cX8_judge 6 (some FieldType.int) (rmd 4) n F [.ref a0, .int a1, .long a2] (some (.int rx)) F' :=
  ct_intro (own := RX8) (nm := false) (by decide) rfl (fun h => by cases h) (Nat.le_of_ble_eq_true rfl) (fun X hn hX => bl_X8_judge hX F a0 a1 a2 h)
def g_X8_see (F : Hp) (a0 : Nat) (a1 : Int32) (a2 : Int32) : Option (Int32 × Hp) := ((pV F a0 8 0 (.int 0)).bind fun F1 => (bnd2 (g_X8_in F1 (Int32.toInt64 a1) (0 : Int64) (99 : Int64)) fun x3 F2 => (if x3 = 0 then some ((-2), F2) else (bnd2 (g_X8_in F2 (Int32.toInt64 a2) (0 : Int64) (3 : Int64)) fun x6 F5 => (if x6 = 0 then some ((-2), F5) else ((gI F5 a0 8 16).bind fun x8 => (if x8 = 6 then some ((-4), F5) else ((gR F5 a0 8 17).bind fun q10 => ((gI F5 a0 8 16).bind fun x11 => ((sI F5 q10 0 x11 a1).bind fun F12 => ((gR F12 a0 8 18).bind fun q13 => ((gI F12 a0 8 16).bind fun x14 => ((sI F12 q13 0 x14 a2).bind fun F15 => ((gI F15 a0 8 16).bind fun x16 => ((pV F15 a0 8 16 (.int (x16 + 1))).bind fun F17 => ((gI F17 a0 8 16).bind fun x18 => some (x18, F17)))))))))))))))))
set_option maxHeartbeats 4000000 in
theorem bl_X8_see {X : Cx} {rx : Int32} {F' : Hp} (hX : Md X cX8_see RX8 3 (rmd 1) (some FieldType.int) false (some (.int rx)) F') (F : Hp) (a0 : Nat) (a1 : Int32) (a2 : Int32) (h : g_X8_see F a0 a1 a2 = some (rx, F')) : PW X 0 0 F 0 [(0, .ref a0), (1, .int a1), (2, .int a2)] [] := by
  have hO := hX.1
  unfold g_X8_see at h
  refine pw_aload_n hO dX8_see_0 0 rfl ?_
  refine pw_iconst hO dX8_see_1 (v := 0) (by decide) ?_
  refine pw_putI hO dX8_see_2 fp_X8_58 h (fun F1 h => ?_)
  refine pw_iload_n hO dX8_see_5 1 rfl ?_
  refine pw_i2l hO dX8_see_6 ?_
  refine pw_lconst hO dX8_see_7 (v := (0 : Int64)) (by decide) ?_
  refine pw_ldc2 hO dX8_see_8 kl_X8_165 ?_
  refine pw_SI (as := [.long (Int32.toInt64 a1), .long (0 : Int64), .long (99 : Int64)]) (st := []) (d := 0) hO [.long (99 : Int64), .long (0 : Int64), .long (Int32.toInt64 a1)] dX8_see_11 sl_X8_61 h (fun r F1 hg n => ct_X8_in hg) ⟨Nat.le_of_ble_eq_true rfl, Nat.le_of_ble_eq_true rfl⟩ ⟨Nat.zero_le _, Nat.zero_le _⟩ (Nat.le_of_ble_eq_true rfl) (fun _ _ => rfl) rfl (fun x3 F2 h => ?_)
  refine pw_if_eq (tgt := 29) hO dX8_see_14 (by decide) h (fun c4 h => ?_) (fun c4 h => ?_)
  · refine pw_bipush hO dX8_see_29 (v := (-2)) (by decide) ?_
    exact pw_iret hO hX.2 dX8_see_31 h
  · refine pw_iload_n hO dX8_see_17 2 rfl ?_
    refine pw_i2l hO dX8_see_18 ?_
    refine pw_lconst hO dX8_see_19 (v := (0 : Int64)) (by decide) ?_
    refine pw_ldc2 hO dX8_see_20 kl_X8_184 ?_
    refine pw_SI (as := [.long (Int32.toInt64 a2), .long (0 : Int64), .long (3 : Int64)]) (st := []) (d := 0) hO [.long (3 : Int64), .long (0 : Int64), .long (Int32.toInt64 a2)] dX8_see_23 sl_X8_61 h (fun r F1 hg n => ct_X8_in hg) ⟨Nat.le_of_ble_eq_true rfl, Nat.le_of_ble_eq_true rfl⟩ ⟨Nat.zero_le _, Nat.zero_le _⟩ (Nat.le_of_ble_eq_true rfl) (fun _ _ => rfl) rfl (fun x6 F5 h => ?_)
    refine pw_if_ne (tgt := 32) hO dX8_see_26 (by decide) h (fun c7 h => ?_) (fun c7 h => ?_)
    · refine pw_aload_n hO dX8_see_32 0 rfl ?_
      refine pw_getI hO dX8_see_33 fl_X8_186 h (fun x8 h => ?_)
      refine pw_bipush hO dX8_see_36 (v := 6) (by decide) ?_
      refine pw_icmp_ne (tgt := 44) hO dX8_see_38 (by decide) h (fun c9 h => ?_) (fun c9 h => ?_)
      · refine pw_aload_n hO dX8_see_44 0 rfl ?_
        refine pw_getR hO dX8_see_45 fl_X8_41 h (fun q10 h => ?_)
        refine pw_aload_n hO dX8_see_48 0 rfl ?_
        refine pw_getI hO dX8_see_49 fl_X8_186 h (fun x11 h => ?_)
        refine pw_iload_n hO dX8_see_52 1 rfl ?_
        refine pw_iast hO dX8_see_53 h (fun F12 h => ?_)
        refine pw_aload_n hO dX8_see_54 0 rfl ?_
        refine pw_getR hO dX8_see_55 fl_X8_44 h (fun q13 h => ?_)
        refine pw_aload_n hO dX8_see_58 0 rfl ?_
        refine pw_getI hO dX8_see_59 fl_X8_186 h (fun x14 h => ?_)
        refine pw_iload_n hO dX8_see_62 2 rfl ?_
        refine pw_iast hO dX8_see_63 h (fun F15 h => ?_)
        refine pw_aload_n hO dX8_see_64 0 rfl ?_
        refine pw_dup hO dX8_see_65 rfl ?_
        refine pw_getI hO dX8_see_66 fl_X8_186 h (fun x16 h => ?_)
        refine pw_iconst hO dX8_see_69 (v := 1) (by decide) ?_
        refine pw_iadd hO dX8_see_70 ?_
        refine pw_putI hO dX8_see_71 fp_X8_186 h (fun F17 h => ?_)
        refine pw_aload_n hO dX8_see_74 0 rfl ?_
        refine pw_getI hO dX8_see_75 fl_X8_186 h (fun x18 h => ?_)
        exact pw_iret hO hX.2 dX8_see_78 h
      · refine pw_bipush hO dX8_see_41 (v := (-4)) (by decide) ?_
        exact pw_iret hO hX.2 dX8_see_43 h
    · refine pw_bipush hO dX8_see_29 (v := (-2)) (by decide) ?_
      exact pw_iret hO hX.2 dX8_see_31 h
theorem ct_X8_see {n : Nat} {F : Hp} {a0 : Nat} {a1 : Int32} {a2 : Int32} {rx : Int32} {F' : Hp} (h : g_X8_see F a0 a1 a2 = some (rx, F')) : CT yX8_see cX8_see 3 (some FieldType.int) (rmd 1) n F [.ref a0, .int a1, .int a2] (some (.int rx)) F' :=
  ct_intro (own := RX8) (nm := false) (by decide) rfl (fun h => by cases h) (Nat.le_of_ble_eq_true rfl) (fun X hn hX => bl_X8_see hX F a0 a1 a2 h)
def g_X8_unsee (F : Hp) (a0 : Nat) : Option (Int32 × Hp) := ((pV F a0 8 0 (.int 0)).bind fun F1 => ((gI F1 a0 8 16).bind fun x2 => ((pV F1 a0 8 16 (.int 0)).bind fun F3 => some (x2, F3))))
set_option maxHeartbeats 4000000 in
theorem bl_X8_unsee {X : Cx} {rx : Int32} {F' : Hp} (hX : Md X cX8_unsee RX8 2 (rmd 0) (some FieldType.int) false (some (.int rx)) F') (F : Hp) (a0 : Nat) (h : g_X8_unsee F a0 = some (rx, F')) : PW X 0 0 F 0 [(0, .ref a0)] [] := by
  have hO := hX.1
  unfold g_X8_unsee at h
  refine pw_aload_n hO dX8_unsee_0 0 rfl ?_
  refine pw_iconst hO dX8_unsee_1 (v := 0) (by decide) ?_
  refine pw_putI hO dX8_unsee_2 fp_X8_58 h (fun F1 h => ?_)
  refine pw_aload_n hO dX8_unsee_5 0 rfl ?_
  refine pw_getI hO dX8_unsee_6 fl_X8_186 h (fun x2 h => ?_)
  refine pw_istore_n hO [(1, .int x2), (0, .ref a0)] dX8_unsee_9 (by decide) rfl ?_
  refine pw_aload_n hO dX8_unsee_10 1 rfl ?_
  refine pw_iconst hO dX8_unsee_11 (v := 0) (by decide) ?_
  refine pw_putI hO dX8_unsee_12 fp_X8_186 h (fun F3 h => ?_)
  refine pw_iload_n hO dX8_unsee_15 0 rfl ?_
  exact pw_iret hO hX.2 dX8_unsee_16 h
theorem ct_X8_unsee {n : Nat} {F : Hp} {a0 : Nat} {rx : Int32} {F' : Hp} (h : g_X8_unsee F a0 = some (rx, F')) : CT yX8_unsee cX8_unsee 2 (some FieldType.int) (rmd 0) n F [.ref a0] (some (.int rx)) F' :=
  ct_intro (own := RX8) (nm := false) (by decide) rfl (fun h => by cases h) (Nat.le_of_ble_eq_true rfl) (fun X hn hX => bl_X8_unsee hX F a0 h)
def g_X8_tickNoted (F : Hp) (a0 : Nat) : Option Hp := ((gR F a0 8 11).bind fun q1 => (ckO F a0 8 ((g_X8_tick F a0 q1).bind fun F2 => ((gR F2 a0 8 11).bind fun q4 => ((aI F2 q4 0 3).bind fun x5 => (if 100 ≤ x5 then some F2 else ((gR F2 a0 8 20).bind fun q7 => ((gR F2 a0 8 11).bind fun q8 => ((aI F2 q8 0 3).bind fun x9 => ((gR F2 a0 8 11).bind fun q10 => ((aI F2 q10 0 0).bind fun x11 => ((sI F2 q7 0 x9 x11).bind fun F12 => some F12))))))))))))
set_option maxHeartbeats 4000000 in
theorem bl_X8_tickNoted {X : Cx} {F' : Hp} (hX : Md X cX8_tickNoted RX8 1 (rmd 3) none false none F') (F : Hp) (a0 : Nat) (h : g_X8_tickNoted F a0 = some F') : PW X 0 0 F 0 [(0, .ref a0)] [] := by
  have hO := hX.1
  unfold g_X8_tickNoted at h
  refine pw_aload_n hO dX8_tickNoted_0 0 rfl ?_
  refine pw_aload_n hO dX8_tickNoted_1 0 rfl ?_
  refine pw_getR hO dX8_tickNoted_2 fl_X8_28 h (fun q1 h => ?_)
  refine pw_V0 (a := a0) (ci := 8) (as := [.ref q1]) (st := []) (d := 2) hO [.ref q1, .ref a0] dX8_tickNoted_5 vl_X8_96 h (fun F1 hg n => ct_X8_tick hg) ⟨Nat.le_of_ble_eq_true rfl, Nat.le_of_ble_eq_true rfl⟩ ⟨Nat.zero_le _, Nat.zero_le _⟩ (Nat.le_of_ble_eq_true rfl) (fun _ _ => rfl) rfl (fun F2 h => ?_)
  refine pw_aload_n hO dX8_tickNoted_8 0 rfl ?_
  refine pw_getR hO dX8_tickNoted_9 fl_X8_28 h (fun q4 h => ?_)
  refine pw_iconst hO dX8_tickNoted_12 (v := 3) (by decide) ?_
  refine pw_iald hO dX8_tickNoted_13 h (fun x5 h => ?_)
  refine pw_bipush hO dX8_tickNoted_14 (v := 100) (by decide) ?_
  refine pw_icmp_ge (tgt := 36) hO dX8_tickNoted_16 (by decide) h (fun c6 h => ?_) (fun c6 h => ?_)
  · exact pw_vret hO hX.2 dX8_tickNoted_36 h
  · refine pw_aload_n hO dX8_tickNoted_19 0 rfl ?_
    refine pw_getR hO dX8_tickNoted_20 fl_X8_47 h (fun q7 h => ?_)
    refine pw_aload_n hO dX8_tickNoted_23 0 rfl ?_
    refine pw_getR hO dX8_tickNoted_24 fl_X8_28 h (fun q8 h => ?_)
    refine pw_iconst hO dX8_tickNoted_27 (v := 3) (by decide) ?_
    refine pw_iald hO dX8_tickNoted_28 h (fun x9 h => ?_)
    refine pw_aload_n hO dX8_tickNoted_29 0 rfl ?_
    refine pw_getR hO dX8_tickNoted_30 fl_X8_28 h (fun q10 h => ?_)
    refine pw_iconst hO dX8_tickNoted_33 (v := 0) (by decide) ?_
    refine pw_iald hO dX8_tickNoted_34 h (fun x11 h => ?_)
    refine pw_iast hO dX8_tickNoted_35 h (fun F12 h => ?_)
    exact pw_vret hO hX.2 dX8_tickNoted_36 h
theorem ct_X8_tickNoted {n : Nat} {F : Hp} {a0 : Nat} {F' : Hp} (h : g_X8_tickNoted F a0 = some F') : CT yX8_tickNoted cX8_tickNoted 1 none (rmd 3) n F [.ref a0] none F' :=
  ct_intro (own := RX8) (nm := false) (by decide) rfl (fun h => by cases h) (Nat.le_of_ble_eq_true rfl) (fun X hn hX => bl_X8_tickNoted hX F a0 h)
def g_X8_layWas_b109 : Nat → Hp → Nat → Option Hp
  | 0, _, _ => none
  | n + 1, F, v0 => ((gR F v0 8 11).bind fun q15 => ((aI F q15 0 3).bind fun x16 => (if 99 ≤ x16 then some F else (ckO F v0 8 ((g_X8_tickNoted F v0).bind fun F18 => g_X8_layWas_b109 n F18 v0)))))
set_option maxHeartbeats 4000000 in
theorem bl_X8_layWas_b109 {X : Cx} {F' : Hp} (hX : Md X cX8_layWas RX8 4 (rmd 4) none false none F') : ∀ (n : Nat) (F : Hp) (v0 : Nat), g_X8_layWas_b109 n F v0 = some F' → PW X 0 0 F 109 [(0, .ref v0)] [] := by
  have hO := hX.1
  intro n
  induction n with
  | zero => intro F v0 h; rw [g_X8_layWas_b109] at h; cases h
  | succ n ih =>
    intro F v0 h
    rw [g_X8_layWas_b109] at h
    refine pw_aload_n hO dX8_layWas_109 0 rfl ?_
    refine pw_getR hO dX8_layWas_110 fl_X8_28 h (fun q15 h => ?_)
    refine pw_iconst hO dX8_layWas_113 (v := 3) (by decide) ?_
    refine pw_iald hO dX8_layWas_114 h (fun x16 h => ?_)
    refine pw_bipush hO dX8_layWas_115 (v := 99) (by decide) ?_
    refine pw_icmp_ge (tgt := 127) hO dX8_layWas_117 (by decide) h (fun c17 h => ?_) (fun c17 h => ?_)
    · exact pw_vret hO hX.2 dX8_layWas_127 h
    · refine pw_aload_n hO dX8_layWas_120 0 rfl ?_
      refine pw_V0 (a := v0) (ci := 8) (as := []) (st := []) (d := 3) hO [.ref v0] dX8_layWas_121 vl_X8_189 h (fun F1 hg n => ct_X8_tickNoted hg) ⟨Nat.le_of_ble_eq_true rfl, Nat.le_of_ble_eq_true rfl⟩ ⟨Nat.zero_le _, Nat.zero_le _⟩ (Nat.le_of_ble_eq_true rfl) (fun _ _ => rfl) rfl (fun F18 h => ?_)
      refine pw_goto (tgt := 109) hO dX8_layWas_124 (by decide) ?_
      refine pw_sub (lv1 := [(0, .ref v0)]) [0] rfl ?_
      exact ih F18 v0 h
def g_X8_layWas_b103 (rec37 : Hp → Nat → Int32 → Option Hp) (F : Hp) (v0 : Nat) (v2 : Int32) : Option Hp := rec37 F v0 ((v2 + 1))
set_option maxHeartbeats 4000000 in
theorem bl_X8_layWas_b103 {X : Cx} {F' : Hp} (hX : Md X cX8_layWas RX8 4 (rmd 4) none false none F') (rec37 : Hp → Nat → Int32 → Option Hp) (hrec37 : ∀ (F : Hp) (v0 : Nat) (v2 : Int32), rec37 F v0 v2 = some F' → PW X 0 0 F 37 [(0, .ref v0), (2, .int v2)] []) (F : Hp) (v0 : Nat) (v2 : Int32) (h : g_X8_layWas_b103 rec37 F v0 v2 = some F') : PW X 0 0 F 103 [(0, .ref v0), (2, .int v2)] [] := by
  have hO := hX.1
  unfold g_X8_layWas_b103 at h
  refine pw_iinc hO [(2, .int (v2 + 1)), (0, .ref v0)] dX8_layWas_103 1 rfl rfl (by decide) rfl ?_
  refine pw_goto (tgt := 37) hO dX8_layWas_106 (by decide) ?_
  refine pw_sub (lv1 := [(0, .ref v0), (2, .int (v2 + 1))]) [1, 0] rfl ?_
  exact hrec37 F v0 ((v2 + 1)) h
def g_X8_layWas_b78 (rec37 : Hp → Nat → Int32 → Option Hp) (F : Hp) (v0 : Nat) (v2 : Int32) : Option Hp := ((gR F v0 8 9).bind fun q23 => ((aI F q23 0 v2).bind fun x24 => (if x24 ≤ 9 then g_X8_layWas_b103 rec37 F v0 v2 else ((gR F v0 8 11).bind fun q26 => ((gR F v0 8 9).bind fun q27 => ((aI F q27 0 v2).bind fun x28 => (ckO F v0 8 ((g_X8_doEvent F v0 q26 x28).bind fun F29 => g_X8_layWas_b103 rec37 F29 v0 v2))))))))
set_option maxHeartbeats 4000000 in
theorem bl_X8_layWas_b78 {X : Cx} {F' : Hp} (hX : Md X cX8_layWas RX8 4 (rmd 4) none false none F') (rec37 : Hp → Nat → Int32 → Option Hp) (hrec37 : ∀ (F : Hp) (v0 : Nat) (v2 : Int32), rec37 F v0 v2 = some F' → PW X 0 0 F 37 [(0, .ref v0), (2, .int v2)] []) (F : Hp) (v0 : Nat) (v2 : Int32) (h : g_X8_layWas_b78 rec37 F v0 v2 = some F') : PW X 0 0 F 78 [(0, .ref v0), (2, .int v2)] [] := by
  have hO := hX.1
  unfold g_X8_layWas_b78 at h
  refine pw_aload_n hO dX8_layWas_78 0 rfl ?_
  refine pw_getR hO dX8_layWas_79 fl_X8_25 h (fun q23 h => ?_)
  refine pw_iload_n hO dX8_layWas_82 1 rfl ?_
  refine pw_iald hO dX8_layWas_83 h (fun x24 h => ?_)
  refine pw_bipush hO dX8_layWas_84 (v := 9) (by decide) ?_
  refine pw_icmp_le (tgt := 103) hO dX8_layWas_86 (by decide) h (fun c25 h => ?_) (fun c25 h => ?_)
  · refine pw_sub (lv1 := [(0, .ref v0), (2, .int v2)]) [0, 1] rfl ?_
    exact bl_X8_layWas_b103 hX rec37 hrec37 F v0 v2 h
  · refine pw_aload_n hO dX8_layWas_89 0 rfl ?_
    refine pw_aload_n hO dX8_layWas_90 0 rfl ?_
    refine pw_getR hO dX8_layWas_91 fl_X8_28 h (fun q26 h => ?_)
    refine pw_aload_n hO dX8_layWas_94 0 rfl ?_
    refine pw_getR hO dX8_layWas_95 fl_X8_25 h (fun q27 h => ?_)
    refine pw_iload_n hO dX8_layWas_98 1 rfl ?_
    refine pw_iald hO dX8_layWas_99 h (fun x28 h => ?_)
    refine pw_V0 (a := v0) (ci := 8) (as := [.ref q26, .int x28]) (st := []) (d := 3) hO [.int x28, .ref q26, .ref v0] dX8_layWas_100 vl_X8_133 h (fun F1 hg n => ct_X8_doEvent hg) ⟨Nat.le_of_ble_eq_true rfl, Nat.le_of_ble_eq_true rfl⟩ ⟨Nat.zero_le _, Nat.zero_le _⟩ (Nat.le_of_ble_eq_true rfl) (fun _ _ => rfl) rfl (fun F29 h => ?_)
    refine pw_sub (lv1 := [(0, .ref v0), (2, .int v2)]) [0, 1] rfl ?_
    exact bl_X8_layWas_b103 hX rec37 hrec37 F29 v0 v2 h
def g_X8_layWas_b47 (rec37 : Hp → Nat → Int32 → Option Hp) : Nat → Hp → Nat → Int32 → Int32 → Option Hp
  | 0, _, _, _, _ => none
  | n + 1, F, v0, v2, v3 => ((gR F v0 8 9).bind fun q20 => ((aI F q20 0 v2).bind fun x21 => (if x21 ≤ v3 then g_X8_layWas_b78 rec37 F v0 v2 else ((gR F v0 8 9).bind fun q31 => ((aI F q31 0 v2).bind fun x32 => (if 10 ≤ x32 then g_X8_layWas_b78 rec37 F v0 v2 else (ckO F v0 8 ((g_X8_tickNoted F v0).bind fun F34 => g_X8_layWas_b47 rec37 n F34 v0 v2 ((v3 + 1))))))))))
set_option maxHeartbeats 4000000 in
theorem bl_X8_layWas_b47 {X : Cx} {F' : Hp} (hX : Md X cX8_layWas RX8 4 (rmd 4) none false none F') (rec37 : Hp → Nat → Int32 → Option Hp) (hrec37 : ∀ (F : Hp) (v0 : Nat) (v2 : Int32), rec37 F v0 v2 = some F' → PW X 0 0 F 37 [(0, .ref v0), (2, .int v2)] []) : ∀ (n : Nat) (F : Hp) (v0 : Nat) (v2 : Int32) (v3 : Int32), g_X8_layWas_b47 rec37 n F v0 v2 v3 = some F' → PW X 0 0 F 47 [(0, .ref v0), (2, .int v2), (3, .int v3)] [] := by
  have hO := hX.1
  intro n
  induction n with
  | zero => intro F v0 v2 v3 h; rw [g_X8_layWas_b47] at h; cases h
  | succ n ih =>
    intro F v0 v2 v3 h
    rw [g_X8_layWas_b47] at h
    refine pw_iload_n hO dX8_layWas_47 2 rfl ?_
    refine pw_aload_n hO dX8_layWas_48 0 rfl ?_
    refine pw_getR hO dX8_layWas_49 fl_X8_25 h (fun q20 h => ?_)
    refine pw_iload_n hO dX8_layWas_52 1 rfl ?_
    refine pw_iald hO dX8_layWas_53 h (fun x21 h => ?_)
    refine pw_icmp_ge (tgt := 78) hO dX8_layWas_54 (by decide) h (fun c22 h => ?_) (fun c22 h => ?_)
    · refine pw_sub (lv1 := [(0, .ref v0), (2, .int v2)]) [0, 1] rfl ?_
      exact bl_X8_layWas_b78 hX rec37 hrec37 F v0 v2 h
    · refine pw_aload_n hO dX8_layWas_57 0 rfl ?_
      refine pw_getR hO dX8_layWas_58 fl_X8_25 h (fun q31 h => ?_)
      refine pw_iload_n hO dX8_layWas_61 1 rfl ?_
      refine pw_iald hO dX8_layWas_62 h (fun x32 h => ?_)
      refine pw_bipush hO dX8_layWas_63 (v := 10) (by decide) ?_
      refine pw_icmp_ge (tgt := 78) hO dX8_layWas_65 (by decide) h (fun c33 h => ?_) (fun c33 h => ?_)
      · refine pw_sub (lv1 := [(0, .ref v0), (2, .int v2)]) [0, 1] rfl ?_
        exact bl_X8_layWas_b78 hX rec37 hrec37 F v0 v2 h
      · refine pw_aload_n hO dX8_layWas_68 0 rfl ?_
        refine pw_V0 (a := v0) (ci := 8) (as := []) (st := []) (d := 3) hO [.ref v0] dX8_layWas_69 vl_X8_189 h (fun F1 hg n => ct_X8_tickNoted hg) ⟨Nat.le_of_ble_eq_true rfl, Nat.le_of_ble_eq_true rfl⟩ ⟨Nat.zero_le _, Nat.zero_le _⟩ (Nat.le_of_ble_eq_true rfl) (fun _ _ => rfl) rfl (fun F34 h => ?_)
        refine pw_iinc hO [(3, .int (v3 + 1)), (0, .ref v0), (2, .int v2)] dX8_layWas_72 2 rfl rfl (by decide) rfl ?_
        refine pw_goto (tgt := 47) hO dX8_layWas_75 (by decide) ?_
        refine pw_sub (lv1 := [(0, .ref v0), (2, .int v2), (3, .int (v3 + 1))]) [1, 2, 0] rfl ?_
        exact ih F34 v0 v2 ((v3 + 1)) h
def g_X8_layWas_b37 : Nat → Hp → Nat → Int32 → Option Hp
  | 0, _, _, _ => none
  | n + 1, F, v0, v2 => ((gI F v0 8 10).bind fun x13 => (if x13 ≤ v2 then g_X8_layWas_b109 gF F v0 else g_X8_layWas_b47 (g_X8_layWas_b37 n) gF F v0 v2 0))
set_option maxHeartbeats 4000000 in
theorem bl_X8_layWas_b37 {X : Cx} {F' : Hp} (hX : Md X cX8_layWas RX8 4 (rmd 4) none false none F') : ∀ (n : Nat) (F : Hp) (v0 : Nat) (v2 : Int32), g_X8_layWas_b37 n F v0 v2 = some F' → PW X 0 0 F 37 [(0, .ref v0), (2, .int v2)] [] := by
  have hO := hX.1
  intro n
  induction n with
  | zero => intro F v0 v2 h; rw [g_X8_layWas_b37] at h; cases h
  | succ n ih =>
    intro F v0 v2 h
    rw [g_X8_layWas_b37] at h
    refine pw_iload_n hO dX8_layWas_37 1 rfl ?_
    refine pw_aload_n hO dX8_layWas_38 0 rfl ?_
    refine pw_getI hO dX8_layWas_39 fl_X8_130 h (fun x13 h => ?_)
    refine pw_icmp_ge (tgt := 109) hO dX8_layWas_42 (by decide) h (fun c14 h => ?_) (fun c14 h => ?_)
    · refine pw_sub (lv1 := [(0, .ref v0)]) [0] rfl ?_
      exact bl_X8_layWas_b109 hX gF F v0 h
    · refine pw_iconst hO dX8_layWas_45 (v := 0) (by decide) ?_
      refine pw_istore_n hO [(3, .int 0), (0, .ref v0), (2, .int v2)] dX8_layWas_46 (by decide) rfl ?_
      refine pw_sub (lv1 := [(0, .ref v0), (2, .int v2), (3, .int 0)]) [1, 2, 0] rfl ?_
      exact bl_X8_layWas_b47 hX (g_X8_layWas_b37 n) ih gF F v0 v2 0 h
def g_X8_layWas (F : Hp) (a0 : Nat) (a1 : Int32) : Option Hp := ((gR F a0 8 8).bind fun q1 => ((gR F a0 8 11).bind fun q2 => ((g_X8_lay F q1 q2).bind fun F3 => ((gR F3 a0 8 11).bind fun q5 => (bnd2 (g_X8_at F3 0) fun x7 F6 => ((sI F6 q5 0 (x7 + 1) a1).bind fun F8 => ((gR F8 a0 8 20).bind fun q9 => ((gR F8 a0 8 11).bind fun q10 => ((aI F8 q10 0 0).bind fun x11 => ((sI F8 q9 0 0 x11).bind fun F12 => g_X8_layWas_b37 gF F12 a0 0))))))))))
set_option maxHeartbeats 4000000 in
theorem bl_X8_layWas {X : Cx} {F' : Hp} (hX : Md X cX8_layWas RX8 4 (rmd 4) none false none F') (F : Hp) (a0 : Nat) (a1 : Int32) (h : g_X8_layWas F a0 a1 = some F') : PW X 0 0 F 0 [(0, .ref a0), (1, .int a1)] [] := by
  have hO := hX.1
  unfold g_X8_layWas at h
  refine pw_aload_n hO dX8_layWas_0 0 rfl ?_
  refine pw_getR hO dX8_layWas_1 fl_X8_22 h (fun q1 h => ?_)
  refine pw_aload_n hO dX8_layWas_4 0 rfl ?_
  refine pw_getR hO dX8_layWas_5 fl_X8_28 h (fun q2 h => ?_)
  refine pw_S0 (as := [.ref q1, .ref q2]) (st := []) (d := 0) hO [.ref q2, .ref q1] dX8_layWas_8 sl_X8_89 h (fun F1 hg n => ct_X8_lay hg) ⟨Nat.le_of_ble_eq_true rfl, Nat.le_of_ble_eq_true rfl⟩ ⟨Nat.zero_le _, Nat.zero_le _⟩ (Nat.le_of_ble_eq_true rfl) (fun _ _ => rfl) rfl (fun F3 h => ?_)
  refine pw_aload_n hO dX8_layWas_11 0 rfl ?_
  refine pw_getR hO dX8_layWas_12 fl_X8_28 h (fun q5 h => ?_)
  refine pw_iconst hO dX8_layWas_15 (v := 0) (by decide) ?_
  refine pw_SI (as := [.int 0]) (st := [.ref q5]) (d := 0) hO [.int 0, .ref q5] dX8_layWas_16 sl_X8_65 h (fun r F1 hg n => ct_X8_at hg) ⟨Nat.le_of_ble_eq_true rfl, Nat.le_of_ble_eq_true rfl⟩ ⟨Nat.zero_le _, Nat.zero_le _⟩ (Nat.le_of_ble_eq_true rfl) (fun _ _ => rfl) rfl (fun x7 F6 h => ?_)
  refine pw_iconst hO dX8_layWas_19 (v := 1) (by decide) ?_
  refine pw_iadd hO dX8_layWas_20 ?_
  refine pw_iload_n hO dX8_layWas_21 1 rfl ?_
  refine pw_iast hO dX8_layWas_22 h (fun F8 h => ?_)
  refine pw_aload_n hO dX8_layWas_23 0 rfl ?_
  refine pw_getR hO dX8_layWas_24 fl_X8_47 h (fun q9 h => ?_)
  refine pw_iconst hO dX8_layWas_27 (v := 0) (by decide) ?_
  refine pw_aload_n hO dX8_layWas_28 0 rfl ?_
  refine pw_getR hO dX8_layWas_29 fl_X8_28 h (fun q10 h => ?_)
  refine pw_iconst hO dX8_layWas_32 (v := 0) (by decide) ?_
  refine pw_iald hO dX8_layWas_33 h (fun x11 h => ?_)
  refine pw_iast hO dX8_layWas_34 h (fun F12 h => ?_)
  refine pw_iconst hO dX8_layWas_35 (v := 0) (by decide) ?_
  refine pw_istore_n hO [(2, .int 0), (0, .ref a0), (1, .int a1)] dX8_layWas_36 (by decide) rfl ?_
  refine pw_sub (lv1 := [(0, .ref a0), (2, .int 0)]) [1, 0] rfl ?_
  exact bl_X8_layWas_b37 hX gF F12 a0 0 h
theorem ct_X8_layWas {n : Nat} {F : Hp} {a0 : Nat} {a1 : Int32} {F' : Hp} (h : g_X8_layWas F a0 a1 = some F') : CT yX8_layWas cX8_layWas 4 none (rmd 4) n F [.ref a0, .int a1] none F' :=
  ct_intro (own := RX8) (nm := false) (by decide) rfl (fun h => by cases h) (Nat.le_of_ble_eq_true rfl) (fun X hn hX => bl_X8_layWas hX F a0 a1 h)
def g_X8_which_b84 (rec9 : Hp → Nat → Int32 → Int32 → Option (Int32 × Hp)) (F : Hp) (v0 : Nat) (v2 : Int32) (s0 : Int32) (s1 : Int32) : Option (Int32 × Hp) := rec9 F v0 ((s0 ||| s1)) ((v2 + 1))
set_option maxHeartbeats 4000000 in
theorem bl_X8_which_b84 {X : Cx} {rx : Int32} {F' : Hp} (hX : Md X cX8_which RX8 5 (rmd 5) (some FieldType.int) false (some (.int rx)) F') (rec9 : Hp → Nat → Int32 → Int32 → Option (Int32 × Hp)) (hrec9 : ∀ (F : Hp) (v0 : Nat) (v1 : Int32) (v2 : Int32), rec9 F v0 v1 v2 = some (rx, F') → PW X 0 0 F 9 [(0, .ref v0), (1, .int v1), (2, .int v2)] []) (F : Hp) (v0 : Nat) (v2 : Int32) (s0 : Int32) (s1 : Int32) (h : g_X8_which_b84 rec9 F v0 v2 s0 s1 = some (rx, F')) : PW X 0 0 F 84 [(0, .ref v0), (2, .int v2)] [.int s1, .int s0] := by
  have hO := hX.1
  unfold g_X8_which_b84 at h
  refine pw_ior hO dX8_which_84 ?_
  refine pw_istore_n hO [(1, .int (s0 ||| s1)), (0, .ref v0), (2, .int v2)] dX8_which_85 (by decide) rfl ?_
  refine pw_iinc hO [(2, .int (v2 + 1)), (1, .int (s0 ||| s1)), (0, .ref v0)] dX8_which_86 2 rfl rfl (by decide) rfl ?_
  refine pw_goto (tgt := 9) hO dX8_which_89 (by decide) ?_
  refine pw_sub (lv1 := [(0, .ref v0), (1, .int (s0 ||| s1)), (2, .int (v2 + 1))]) [2, 1, 0] rfl ?_
  exact hrec9 F v0 ((s0 ||| s1)) ((v2 + 1)) h
def g_X8_which_b65 (rec25 : Hp → Nat → Int32 → Int32 → Int32 → Int32 → Option (Int32 × Hp)) (F : Hp) (v0 : Nat) (v1 : Int32) (v2 : Int32) (v4 : Int32) (s0 : Int32) : Option (Int32 × Hp) := rec25 F v0 v1 v2 s0 ((v4 + 1))
set_option maxHeartbeats 4000000 in
theorem bl_X8_which_b65 {X : Cx} {rx : Int32} {F' : Hp} (hX : Md X cX8_which RX8 5 (rmd 5) (some FieldType.int) false (some (.int rx)) F') (rec25 : Hp → Nat → Int32 → Int32 → Int32 → Int32 → Option (Int32 × Hp)) (hrec25 : ∀ (F : Hp) (v0 : Nat) (v1 : Int32) (v2 : Int32) (v3 : Int32) (v4 : Int32), rec25 F v0 v1 v2 v3 v4 = some (rx, F') → PW X 0 0 F 25 [(0, .ref v0), (1, .int v1), (2, .int v2), (3, .int v3), (4, .int v4)] []) (F : Hp) (v0 : Nat) (v1 : Int32) (v2 : Int32) (v4 : Int32) (s0 : Int32) (h : g_X8_which_b65 rec25 F v0 v1 v2 v4 s0 = some (rx, F')) : PW X 0 0 F 65 [(0, .ref v0), (1, .int v1), (2, .int v2), (4, .int v4)] [.int s0] := by
  have hO := hX.1
  unfold g_X8_which_b65 at h
  refine pw_istore_n hO [(3, .int s0), (0, .ref v0), (1, .int v1), (2, .int v2), (4, .int v4)] dX8_which_65 (by decide) rfl ?_
  refine pw_iinc hO [(4, .int (v4 + 1)), (3, .int s0), (0, .ref v0), (1, .int v1), (2, .int v2)] dX8_which_66 4 rfl rfl (by decide) rfl ?_
  refine pw_goto (tgt := 25) hO dX8_which_69 (by decide) ?_
  refine pw_sub (lv1 := [(0, .ref v0), (1, .int v1), (2, .int v2), (3, .int s0), (4, .int (v4 + 1))]) [2, 3, 4, 1, 0] rfl ?_
  exact hrec25 F v0 v1 v2 s0 ((v4 + 1)) h
def g_X8_which_b64 (rec25 : Hp → Nat → Int32 → Int32 → Int32 → Int32 → Option (Int32 × Hp)) (F : Hp) (v0 : Nat) (v1 : Int32) (v2 : Int32) (v4 : Int32) : Option (Int32 × Hp) := g_X8_which_b65 rec25 F v0 v1 v2 v4 0
set_option maxHeartbeats 4000000 in
theorem bl_X8_which_b64 {X : Cx} {rx : Int32} {F' : Hp} (hX : Md X cX8_which RX8 5 (rmd 5) (some FieldType.int) false (some (.int rx)) F') (rec25 : Hp → Nat → Int32 → Int32 → Int32 → Int32 → Option (Int32 × Hp)) (hrec25 : ∀ (F : Hp) (v0 : Nat) (v1 : Int32) (v2 : Int32) (v3 : Int32) (v4 : Int32), rec25 F v0 v1 v2 v3 v4 = some (rx, F') → PW X 0 0 F 25 [(0, .ref v0), (1, .int v1), (2, .int v2), (3, .int v3), (4, .int v4)] []) (F : Hp) (v0 : Nat) (v1 : Int32) (v2 : Int32) (v4 : Int32) (h : g_X8_which_b64 rec25 F v0 v1 v2 v4 = some (rx, F')) : PW X 0 0 F 64 [(0, .ref v0), (1, .int v1), (2, .int v2), (4, .int v4)] [] := by
  have hO := hX.1
  unfold g_X8_which_b64 at h
  refine pw_iconst hO dX8_which_64 (v := 0) (by decide) ?_
  refine pw_sub (lv1 := [(0, .ref v0), (1, .int v1), (2, .int v2), (4, .int v4)]) [0, 1, 2, 3] rfl ?_
  exact bl_X8_which_b65 hX rec25 hrec25 F v0 v1 v2 v4 0 h
def g_X8_which_b25 (rec9 : Hp → Nat → Int32 → Int32 → Option (Int32 × Hp)) : Nat → Hp → Nat → Int32 → Int32 → Int32 → Int32 → Option (Int32 × Hp)
  | 0, _, _, _, _, _, _ => none
  | n + 1, F, v0, v1, v2, v3, v4 => ((gI F v0 8 16).bind fun x5 => (if x5 ≤ v4 then (if v3 = 0 then g_X8_which_b84 rec9 F v0 v2 v1 0 else g_X8_which_b84 rec9 F v0 v2 v1 ((1 <<< (v2 &&& 31)))) else (if v3 = 0 then g_X8_which_b64 (g_X8_which_b25 rec9 n) F v0 v1 v2 v4 else ((gR F v0 8 20).bind fun q9 => ((gR F v0 8 17).bind fun q10 => ((aI F q10 0 v4).bind fun x11 => ((aI F q9 0 x11).bind fun x12 => ((gR F v0 8 18).bind fun q13 => ((aI F q13 0 v4).bind fun x14 => (if x12 = x14 then g_X8_which_b65 (g_X8_which_b25 rec9 n) F v0 v1 v2 v4 1 else g_X8_which_b64 (g_X8_which_b25 rec9 n) F v0 v1 v2 v4))))))))))
set_option maxHeartbeats 4000000 in
theorem bl_X8_which_b25 {X : Cx} {rx : Int32} {F' : Hp} (hX : Md X cX8_which RX8 5 (rmd 5) (some FieldType.int) false (some (.int rx)) F') (rec9 : Hp → Nat → Int32 → Int32 → Option (Int32 × Hp)) (hrec9 : ∀ (F : Hp) (v0 : Nat) (v1 : Int32) (v2 : Int32), rec9 F v0 v1 v2 = some (rx, F') → PW X 0 0 F 9 [(0, .ref v0), (1, .int v1), (2, .int v2)] []) : ∀ (n : Nat) (F : Hp) (v0 : Nat) (v1 : Int32) (v2 : Int32) (v3 : Int32) (v4 : Int32), g_X8_which_b25 rec9 n F v0 v1 v2 v3 v4 = some (rx, F') → PW X 0 0 F 25 [(0, .ref v0), (1, .int v1), (2, .int v2), (3, .int v3), (4, .int v4)] [] := by
  have hO := hX.1
  intro n
  induction n with
  | zero => intro F v0 v1 v2 v3 v4 h; rw [g_X8_which_b25] at h; cases h
  | succ n ih =>
    intro F v0 v1 v2 v3 v4 h
    rw [g_X8_which_b25] at h
    refine pw_iload hO dX8_which_25 4 rfl ?_
    refine pw_aload_n hO dX8_which_27 0 rfl ?_
    refine pw_getI hO dX8_which_28 fl_X8_186 h (fun x5 h => ?_)
    refine pw_icmp_ge (tgt := 72) hO dX8_which_31 (by decide) h (fun c6 h => ?_) (fun c6 h => ?_)
    · refine pw_iload_n hO dX8_which_72 1 rfl ?_
      refine pw_iload_n hO dX8_which_73 3 rfl ?_
      refine pw_if_eq (tgt := 83) hO dX8_which_74 (by decide) h (fun c7 h => ?_) (fun c7 h => ?_)
      · refine pw_iconst hO dX8_which_83 (v := 0) (by decide) ?_
        refine pw_sub (lv1 := [(0, .ref v0), (2, .int v2)]) [0, 2] rfl ?_
        exact bl_X8_which_b84 hX rec9 hrec9 F v0 v2 v1 0 h
      · refine pw_iconst hO dX8_which_77 (v := 1) (by decide) ?_
        refine pw_iload_n hO dX8_which_78 2 rfl ?_
        refine pw_ishl hO dX8_which_79 ?_
        refine pw_goto (tgt := 84) hO dX8_which_80 (by decide) ?_
        refine pw_sub (lv1 := [(0, .ref v0), (2, .int v2)]) [0, 2] rfl ?_
        exact bl_X8_which_b84 hX rec9 hrec9 F v0 v2 v1 ((1 <<< (v2 &&& 31))) h
    · refine pw_iload_n hO dX8_which_34 3 rfl ?_
      refine pw_if_eq (tgt := 64) hO dX8_which_35 (by decide) h (fun c8 h => ?_) (fun c8 h => ?_)
      · refine pw_sub (lv1 := [(0, .ref v0), (1, .int v1), (2, .int v2), (4, .int v4)]) [0, 1, 2, 4] rfl ?_
        exact bl_X8_which_b64 hX (g_X8_which_b25 rec9 n) ih F v0 v1 v2 v4 h
      · refine pw_aload_n hO dX8_which_38 0 rfl ?_
        refine pw_getR hO dX8_which_39 fl_X8_47 h (fun q9 h => ?_)
        refine pw_aload_n hO dX8_which_42 0 rfl ?_
        refine pw_getR hO dX8_which_43 fl_X8_41 h (fun q10 h => ?_)
        refine pw_iload hO dX8_which_46 4 rfl ?_
        refine pw_iald hO dX8_which_48 h (fun x11 h => ?_)
        refine pw_iald hO dX8_which_49 h (fun x12 h => ?_)
        refine pw_aload_n hO dX8_which_50 0 rfl ?_
        refine pw_getR hO dX8_which_51 fl_X8_44 h (fun q13 h => ?_)
        refine pw_iload hO dX8_which_54 4 rfl ?_
        refine pw_iald hO dX8_which_56 h (fun x14 h => ?_)
        refine pw_icmp_ne (tgt := 64) hO dX8_which_57 (by decide) h (fun c15 h => ?_) (fun c15 h => ?_)
        · refine pw_sub (lv1 := [(0, .ref v0), (1, .int v1), (2, .int v2), (4, .int v4)]) [0, 1, 2, 4] rfl ?_
          exact bl_X8_which_b64 hX (g_X8_which_b25 rec9 n) ih F v0 v1 v2 v4 h
        · refine pw_iconst hO dX8_which_60 (v := 1) (by decide) ?_
          refine pw_goto (tgt := 65) hO dX8_which_61 (by decide) ?_
          refine pw_sub (lv1 := [(0, .ref v0), (1, .int v1), (2, .int v2), (4, .int v4)]) [0, 1, 2, 4] rfl ?_
          exact bl_X8_which_b65 hX (g_X8_which_b25 rec9 n) ih F v0 v1 v2 v4 1 h
def g_X8_which_b9 : Nat → Hp → Nat → Int32 → Int32 → Option (Int32 × Hp)
  | 0, _, _, _, _ => none
  | n + 1, F, v0, v1, v2 => (if 10 ≤ v2 then some (v1, F) else (ckO F v0 8 ((g_X8_layWas F v0 v2).bind fun F3 => g_X8_which_b25 (g_X8_which_b9 n) gF F3 v0 v1 v2 1 0)))
set_option maxHeartbeats 4000000 in
theorem bl_X8_which_b9 {X : Cx} {rx : Int32} {F' : Hp} (hX : Md X cX8_which RX8 5 (rmd 5) (some FieldType.int) false (some (.int rx)) F') : ∀ (n : Nat) (F : Hp) (v0 : Nat) (v1 : Int32) (v2 : Int32), g_X8_which_b9 n F v0 v1 v2 = some (rx, F') → PW X 0 0 F 9 [(0, .ref v0), (1, .int v1), (2, .int v2)] [] := by
  have hO := hX.1
  intro n
  induction n with
  | zero => intro F v0 v1 v2 h; rw [g_X8_which_b9] at h; cases h
  | succ n ih =>
    intro F v0 v1 v2 h
    rw [g_X8_which_b9] at h
    refine pw_iload_n hO dX8_which_9 2 rfl ?_
    refine pw_bipush hO dX8_which_10 (v := 10) (by decide) ?_
    refine pw_icmp_ge (tgt := 92) hO dX8_which_12 (by decide) h (fun c2 h => ?_) (fun c2 h => ?_)
    · refine pw_iload_n hO dX8_which_92 1 rfl ?_
      exact pw_iret hO hX.2 dX8_which_93 h
    · refine pw_aload_n hO dX8_which_15 0 rfl ?_
      refine pw_iload_n hO dX8_which_16 2 rfl ?_
      refine pw_V0 (a := v0) (ci := 8) (as := [.int v2]) (st := []) (d := 4) hO [.int v2, .ref v0] dX8_which_17 vl_X8_192 h (fun F1 hg n => ct_X8_layWas hg) ⟨Nat.le_of_ble_eq_true rfl, Nat.le_of_ble_eq_true rfl⟩ ⟨Nat.zero_le _, Nat.zero_le _⟩ (Nat.le_of_ble_eq_true rfl) (fun _ _ => rfl) rfl (fun F3 h => ?_)
      refine pw_iconst hO dX8_which_20 (v := 1) (by decide) ?_
      refine pw_istore_n hO [(3, .int 1), (0, .ref v0), (1, .int v1), (2, .int v2)] dX8_which_21 (by decide) rfl ?_
      refine pw_iconst hO dX8_which_22 (v := 0) (by decide) ?_
      refine pw_istore hO [(4, .int 0), (3, .int 1), (0, .ref v0), (1, .int v1), (2, .int v2)] dX8_which_23 (by decide) rfl ?_
      refine pw_sub (lv1 := [(0, .ref v0), (1, .int v1), (2, .int v2), (3, .int 1), (4, .int 0)]) [2, 3, 4, 1, 0] rfl ?_
      exact bl_X8_which_b25 hX (g_X8_which_b9 n) ih gF F3 v0 v1 v2 1 0 h
def g_X8_which (F : Hp) (a0 : Nat) : Option (Int32 × Hp) := ((pV F a0 8 0 (.int 0)).bind fun F1 => g_X8_which_b9 gF F1 a0 0 1)
set_option maxHeartbeats 4000000 in
theorem bl_X8_which {X : Cx} {rx : Int32} {F' : Hp} (hX : Md X cX8_which RX8 5 (rmd 5) (some FieldType.int) false (some (.int rx)) F') (F : Hp) (a0 : Nat) (h : g_X8_which F a0 = some (rx, F')) : PW X 0 0 F 0 [(0, .ref a0)] [] := by
  have hO := hX.1
  unfold g_X8_which at h
  refine pw_aload_n hO dX8_which_0 0 rfl ?_
  refine pw_iconst hO dX8_which_1 (v := 0) (by decide) ?_
  refine pw_putI hO dX8_which_2 fp_X8_58 h (fun F1 h => ?_)
  refine pw_iconst hO dX8_which_5 (v := 0) (by decide) ?_
  refine pw_istore_n hO [(1, .int 0), (0, .ref a0)] dX8_which_6 (by decide) rfl ?_
  refine pw_iconst hO dX8_which_7 (v := 1) (by decide) ?_
  refine pw_istore_n hO [(2, .int 1), (1, .int 0), (0, .ref a0)] dX8_which_8 (by decide) rfl ?_
  refine pw_sub (lv1 := [(0, .ref a0), (1, .int 0), (2, .int 1)]) [2, 1, 0] rfl ?_
  exact bl_X8_which_b9 hX gF F1 a0 0 1 h
theorem ct_X8_which {n : Nat} {F : Hp} {a0 : Nat} {rx : Int32} {F' : Hp} (h : g_X8_which F a0 = some (rx, F')) : CT yX8_which cX8_which 5 (some FieldType.int) (rmd 5) n F [.ref a0] (some (.int rx)) F' :=
  ct_intro (own := RX8) (nm := false) (by decide) rfl (fun h => by cases h) (Nat.le_of_ble_eq_true rfl) (fun X hn hX => bl_X8_which hX F a0 h)
def g_X8_divisor_b13 : Nat → Hp → Int32 → Int32 → Option (Int32 × Hp)
  | 0, _, _, _ => none
  | n + 1, F, v2, v3 => (if v3 = 0 then some (v2, F) else (if v3 = 0 then none else g_X8_divisor_b13 n F v3 ((jrem v2 v3))))
set_option maxHeartbeats 4000000 in
theorem bl_X8_divisor_b13 {X : Cx} {rx : Int32} {F' : Hp} (hX : Md X cX8_divisor RX8 5 (rmd 0) (some FieldType.int) false (some (.int rx)) F') : ∀ (n : Nat) (F : Hp) (v2 : Int32) (v3 : Int32), g_X8_divisor_b13 n F v2 v3 = some (rx, F') → PW X 0 0 F 13 [(2, .int v2), (3, .int v3)] [] := by
  have hO := hX.1
  intro n
  induction n with
  | zero => intro F v2 v3 h; rw [g_X8_divisor_b13] at h; cases h
  | succ n ih =>
    intro F v2 v3 h
    rw [g_X8_divisor_b13] at h
    refine pw_iload_n hO dX8_divisor_13 1 rfl ?_
    refine pw_if_eq (tgt := 30) hO dX8_divisor_14 (by decide) h (fun c2 h => ?_) (fun c2 h => ?_)
    · refine pw_iload_n hO dX8_divisor_30 0 rfl ?_
      exact pw_iret hO hX.2 dX8_divisor_31 h
    · refine pw_iload_n hO dX8_divisor_17 0 rfl ?_
      refine pw_iload_n hO dX8_divisor_18 1 rfl ?_
      refine pw_irem hO dX8_divisor_19 h (fun h => ?_)
      refine pw_istore hO [(4, .int (jrem v2 v3)), (2, .int v2), (3, .int v3)] dX8_divisor_20 (by decide) rfl ?_
      refine pw_iload_n hO dX8_divisor_22 2 rfl ?_
      refine pw_istore_n hO [(2, .int v3), (4, .int (jrem v2 v3)), (3, .int v3)] dX8_divisor_23 (by decide) rfl ?_
      refine pw_iload hO dX8_divisor_24 1 rfl ?_
      refine pw_istore_n hO [(3, .int (jrem v2 v3)), (2, .int v3), (4, .int (jrem v2 v3))] dX8_divisor_26 (by decide) rfl ?_
      refine pw_goto (tgt := 13) hO dX8_divisor_27 (by decide) ?_
      refine pw_sub (lv1 := [(2, .int v3), (3, .int (jrem v2 v3))]) [1, 0] rfl ?_
      exact ih F v3 ((jrem v2 v3)) h
def g_X8_divisor_b10 (F : Hp) (v1 : Int32) (s0 : Int32) : Option (Int32 × Hp) := g_X8_divisor_b13 gF F s0 v1
set_option maxHeartbeats 4000000 in
theorem bl_X8_divisor_b10 {X : Cx} {rx : Int32} {F' : Hp} (hX : Md X cX8_divisor RX8 5 (rmd 0) (some FieldType.int) false (some (.int rx)) F') (F : Hp) (v1 : Int32) (s0 : Int32) (h : g_X8_divisor_b10 F v1 s0 = some (rx, F')) : PW X 0 0 F 10 [(1, .int v1)] [.int s0] := by
  have hO := hX.1
  unfold g_X8_divisor_b10 at h
  refine pw_istore_n hO [(2, .int s0), (1, .int v1)] dX8_divisor_10 (by decide) rfl ?_
  refine pw_iload_n hO dX8_divisor_11 1 rfl ?_
  refine pw_istore_n hO [(3, .int v1), (2, .int s0), (1, .int v1)] dX8_divisor_12 (by decide) rfl ?_
  refine pw_sub (lv1 := [(2, .int s0), (3, .int v1)]) [1, 0] rfl ?_
  exact bl_X8_divisor_b13 hX gF F s0 v1 h
def g_X8_divisor (F : Hp) (a0 : Int32) (a1 : Int32) : Option (Int32 × Hp) := (if 0 ≤ a0 then g_X8_divisor_b10 F a1 a0 else g_X8_divisor_b10 F a1 (-a0))
set_option maxHeartbeats 4000000 in
theorem bl_X8_divisor {X : Cx} {rx : Int32} {F' : Hp} (hX : Md X cX8_divisor RX8 5 (rmd 0) (some FieldType.int) false (some (.int rx)) F') (F : Hp) (a0 : Int32) (a1 : Int32) (h : g_X8_divisor F a0 a1 = some (rx, F')) : PW X 0 0 F 0 [(0, .int a0), (1, .int a1)] [] := by
  have hO := hX.1
  unfold g_X8_divisor at h
  refine pw_iload_n hO dX8_divisor_0 0 rfl ?_
  refine pw_if_ge (tgt := 9) hO dX8_divisor_1 (by decide) h (fun c1 h => ?_) (fun c1 h => ?_)
  · refine pw_iload_n hO dX8_divisor_9 0 rfl ?_
    refine pw_sub (lv1 := [(1, .int a1)]) [1] rfl ?_
    exact bl_X8_divisor_b10 hX F a1 a0 h
  · refine pw_iload_n hO dX8_divisor_4 0 rfl ?_
    refine pw_ineg hO dX8_divisor_5 ?_
    refine pw_goto (tgt := 10) hO dX8_divisor_6 (by decide) ?_
    refine pw_sub (lv1 := [(1, .int a1)]) [1] rfl ?_
    exact bl_X8_divisor_b10 hX F a1 (-a0) h
theorem ct_X8_divisor {n : Nat} {F : Hp} {a0 : Int32} {a1 : Int32} {rx : Int32} {F' : Hp} (h : g_X8_divisor F a0 a1 = some (rx, F')) : CT yX8_divisor cX8_divisor 5 (some FieldType.int) (rmd 0) n F [.int a0, .int a1] (some (.int rx)) F' :=
  ct_intro (own := RX8) (nm := false) (by decide) rfl (fun h => by cases h) (Nat.le_of_ble_eq_true rfl) (fun X hn hX => bl_X8_divisor hX F a0 a1 h)
def g_X8_fraction (F : Hp) (a0 : Int32) (a1 : Int32) (a2 : Int32) : Option (Int32 × Hp) := (bnd2 (g_X8_divisor F a0 a1) fun x2 F1 => (if a2 = 0 then (if x2 = 0 then none else some ((a1 / x2), F1)) else (if x2 = 0 then none else some ((a0 / x2), F1))))
set_option maxHeartbeats 4000000 in
theorem bl_X8_fraction {X : Cx} {rx : Int32} {F' : Hp} (hX : Md X cX8_fraction RX8 4 (rmd 1) (some FieldType.int) false (some (.int rx)) F') (F : Hp) (a0 : Int32) (a1 : Int32) (a2 : Int32) (h : g_X8_fraction F a0 a1 a2 = some (rx, F')) : PW X 0 0 F 0 [(0, .int a0), (1, .int a1), (2, .int a2)] [] := by
  have hO := hX.1
  unfold g_X8_fraction at h
  refine pw_iload_n hO dX8_fraction_0 0 rfl ?_
  refine pw_iload_n hO dX8_fraction_1 1 rfl ?_
  refine pw_SI (as := [.int a0, .int a1]) (st := []) (d := 0) hO [.int a1, .int a0] dX8_fraction_2 sl_X8_196 h (fun r F1 hg n => ct_X8_divisor hg) ⟨Nat.le_of_ble_eq_true rfl, Nat.le_of_ble_eq_true rfl⟩ ⟨Nat.zero_le _, Nat.zero_le _⟩ (Nat.le_of_ble_eq_true rfl) (fun _ _ => rfl) rfl (fun x2 F1 h => ?_)
  refine pw_istore_n hO [(3, .int x2), (0, .int a0), (1, .int a1), (2, .int a2)] dX8_fraction_5 (by decide) rfl ?_
  refine pw_iload_n hO dX8_fraction_6 3 rfl ?_
  refine pw_if_eq (tgt := 16) hO dX8_fraction_7 (by decide) h (fun c3 h => ?_) (fun c3 h => ?_)
  · refine pw_iload_n hO dX8_fraction_16 2 rfl ?_
    refine pw_iload_n hO dX8_fraction_17 0 rfl ?_
    refine pw_idiv hO dX8_fraction_18 h (fun h => ?_)
    exact pw_iret hO hX.2 dX8_fraction_19 h
  · refine pw_iload_n hO dX8_fraction_10 1 rfl ?_
    refine pw_iload_n hO dX8_fraction_11 0 rfl ?_
    refine pw_idiv hO dX8_fraction_12 h (fun h => ?_)
    refine pw_goto (tgt := 19) hO dX8_fraction_13 (by decide) ?_
    exact pw_iret hO hX.2 dX8_fraction_19 h
theorem ct_X8_fraction {n : Nat} {F : Hp} {a0 : Int32} {a1 : Int32} {a2 : Int32} {rx : Int32} {F' : Hp} (h : g_X8_fraction F a0 a1 a2 = some (rx, F')) : CT yX8_fraction cX8_fraction 4 (some FieldType.int) (rmd 1) n F [.int a0, .int a1, .int a2] (some (.int rx)) F' :=
  ct_intro (own := RX8) (nm := false) (by decide) rfl (fun h => by cases h) (Nat.le_of_ble_eq_true rfl) (fun X hn hX => bl_X8_fraction hX F a0 a1 a2 h)
def g_X8_factorial_b4 : Nat → Hp → Int32 → Int32 → Int32 → Option (Int32 × Hp)
  | 0, _, _, _, _ => none
  | n + 1, F, v0, v1, v2 => (if v0 < v2 then some (v1, F) else g_X8_factorial_b4 n F v0 ((v1 * v2)) ((v2 + 1)))
set_option maxHeartbeats 4000000 in
theorem bl_X8_factorial_b4 {X : Cx} {rx : Int32} {F' : Hp} (hX : Md X cX8_factorial RX8 3 (rmd 0) (some FieldType.int) false (some (.int rx)) F') : ∀ (n : Nat) (F : Hp) (v0 : Int32) (v1 : Int32) (v2 : Int32), g_X8_factorial_b4 n F v0 v1 v2 = some (rx, F') → PW X 0 0 F 4 [(0, .int v0), (1, .int v1), (2, .int v2)] [] := by
  have hO := hX.1
  intro n
  induction n with
  | zero => intro F v0 v1 v2 h; rw [g_X8_factorial_b4] at h; cases h
  | succ n ih =>
    intro F v0 v1 v2 h
    rw [g_X8_factorial_b4] at h
    refine pw_iload_n hO dX8_factorial_4 2 rfl ?_
    refine pw_iload_n hO dX8_factorial_5 0 rfl ?_
    refine pw_icmp_gt (tgt := 19) hO dX8_factorial_6 (by decide) h (fun c1 h => ?_) (fun c1 h => ?_)
    · refine pw_iload_n hO dX8_factorial_19 1 rfl ?_
      exact pw_iret hO hX.2 dX8_factorial_20 h
    · refine pw_iload_n hO dX8_factorial_9 1 rfl ?_
      refine pw_iload_n hO dX8_factorial_10 2 rfl ?_
      refine pw_imul hO dX8_factorial_11 ?_
      refine pw_istore_n hO [(1, .int (v1 * v2)), (0, .int v0), (2, .int v2)] dX8_factorial_12 (by decide) rfl ?_
      refine pw_iinc hO [(2, .int (v2 + 1)), (1, .int (v1 * v2)), (0, .int v0)] dX8_factorial_13 2 rfl rfl (by decide) rfl ?_
      refine pw_goto (tgt := 4) hO dX8_factorial_16 (by decide) ?_
      refine pw_sub (lv1 := [(0, .int v0), (1, .int (v1 * v2)), (2, .int (v2 + 1))]) [2, 1, 0] rfl ?_
      exact ih F v0 ((v1 * v2)) ((v2 + 1)) h
def g_X8_factorial (F : Hp) (a0 : Int32) : Option (Int32 × Hp) := g_X8_factorial_b4 gF F a0 1 2
set_option maxHeartbeats 4000000 in
theorem bl_X8_factorial {X : Cx} {rx : Int32} {F' : Hp} (hX : Md X cX8_factorial RX8 3 (rmd 0) (some FieldType.int) false (some (.int rx)) F') (F : Hp) (a0 : Int32) (h : g_X8_factorial F a0 = some (rx, F')) : PW X 0 0 F 0 [(0, .int a0)] [] := by
  have hO := hX.1
  unfold g_X8_factorial at h
  refine pw_iconst hO dX8_factorial_0 (v := 1) (by decide) ?_
  refine pw_istore_n hO [(1, .int 1), (0, .int a0)] dX8_factorial_1 (by decide) rfl ?_
  refine pw_iconst hO dX8_factorial_2 (v := 2) (by decide) ?_
  refine pw_istore_n hO [(2, .int 2), (1, .int 1), (0, .int a0)] dX8_factorial_3 (by decide) rfl ?_
  refine pw_sub (lv1 := [(0, .int a0), (1, .int 1), (2, .int 2)]) [2, 1, 0] rfl ?_
  exact bl_X8_factorial_b4 hX gF F a0 1 2 h
theorem ct_X8_factorial {n : Nat} {F : Hp} {a0 : Int32} {rx : Int32} {F' : Hp} (h : g_X8_factorial F a0 = some (rx, F')) : CT yX8_factorial cX8_factorial 3 (some FieldType.int) (rmd 0) n F [.int a0] (some (.int rx)) F' :=
  ct_intro (own := RX8) (nm := false) (by decide) rfl (fun h => by cases h) (Nat.le_of_ble_eq_true rfl) (fun X hn hX => bl_X8_factorial hX F a0 h)
def g_X8_energyBy (F : Hp) (a0 : Nat) (a1 : Int32) (a2 : Int32) : Option (Int32 × Hp) := (ckO F a0 8 ((g_X8_goOver F a0 a1 a2).bind fun F1 => ((gR F1 a0 8 11).bind fun q3 => ((aI F1 q3 0 4).bind fun x4 => some (x4, F1)))))
set_option maxHeartbeats 4000000 in
theorem bl_X8_energyBy {X : Cx} {rx : Int32} {F' : Hp} (hX : Md X cX8_energyBy RX8 3 (rmd 5) (some FieldType.int) false (some (.int rx)) F') (F : Hp) (a0 : Nat) (a1 : Int32) (a2 : Int32) (h : g_X8_energyBy F a0 a1 a2 = some (rx, F')) : PW X 0 0 F 0 [(0, .ref a0), (1, .int a1), (2, .int a2)] [] := by
  have hO := hX.1
  unfold g_X8_energyBy at h
  refine pw_aload_n hO dX8_energyBy_0 0 rfl ?_
  refine pw_iload_n hO dX8_energyBy_1 1 rfl ?_
  refine pw_iload_n hO dX8_energyBy_2 2 rfl ?_
  refine pw_V0 (a := a0) (ci := 8) (as := [.int a1, .int a2]) (st := []) (d := 4) hO [.int a2, .int a1, .ref a0] dX8_energyBy_3 vl_X8_167 h (fun F1 hg n => ct_X8_goOver hg) ⟨Nat.le_of_ble_eq_true rfl, Nat.le_of_ble_eq_true rfl⟩ ⟨Nat.zero_le _, Nat.zero_le _⟩ (Nat.le_of_ble_eq_true rfl) (fun _ _ => rfl) rfl (fun F1 h => ?_)
  refine pw_aload_n hO dX8_energyBy_6 0 rfl ?_
  refine pw_getR hO dX8_energyBy_7 fl_X8_28 h (fun q3 h => ?_)
  refine pw_iconst hO dX8_energyBy_10 (v := 4) (by decide) ?_
  refine pw_iald hO dX8_energyBy_11 h (fun x4 h => ?_)
  exact pw_iret hO hX.2 dX8_energyBy_12 h
theorem ct_X8_energyBy {n : Nat} {F : Hp} {a0 : Nat} {a1 : Int32} {a2 : Int32} {rx : Int32} {F' : Hp} (h : g_X8_energyBy F a0 a1 a2 = some (rx, F')) : CT yX8_energyBy cX8_energyBy 3 (some FieldType.int) (rmd 5) n F [.ref a0, .int a1, .int a2] (some (.int rx)) F' :=
  ct_intro (own := RX8) (nm := false) (by decide) rfl (fun h => by cases h) (Nat.le_of_ble_eq_true rfl) (fun X hn hX => bl_X8_energyBy hX F a0 a1 a2 h)
def g_X8_share_b83 (rec24 : Hp → Nat → Int32 → Int32 → Int32 → Int32 → Option (Int32 × Hp)) (F : Hp) (v0 : Nat) (v1 : Int32) (v2 : Int32) (v3 : Int32) (v4 : Int32) : Option (Int32 × Hp) := rec24 F v0 v1 v2 v3 ((v4 + 1))
set_option maxHeartbeats 4000000 in
theorem bl_X8_share_b83 {X : Cx} {rx : Int32} {F' : Hp} (hX : Md X cX8_share RX8 6 (rmd 6) (some FieldType.int) false (some (.int rx)) F') (rec24 : Hp → Nat → Int32 → Int32 → Int32 → Int32 → Option (Int32 × Hp)) (hrec24 : ∀ (F : Hp) (v0 : Nat) (v1 : Int32) (v2 : Int32) (v3 : Int32) (v4 : Int32), rec24 F v0 v1 v2 v3 v4 = some (rx, F') → PW X 0 0 F 24 [(0, .ref v0), (1, .int v1), (2, .int v2), (3, .int v3), (4, .int v4)] []) (F : Hp) (v0 : Nat) (v1 : Int32) (v2 : Int32) (v3 : Int32) (v4 : Int32) (h : g_X8_share_b83 rec24 F v0 v1 v2 v3 v4 = some (rx, F')) : PW X 0 0 F 83 [(0, .ref v0), (1, .int v1), (2, .int v2), (3, .int v3), (4, .int v4)] [] := by
  have hO := hX.1
  unfold g_X8_share_b83 at h
  refine pw_iinc hO [(4, .int (v4 + 1)), (0, .ref v0), (1, .int v1), (2, .int v2), (3, .int v3)] dX8_share_83 4 rfl rfl (by decide) rfl ?_
  refine pw_goto (tgt := 24) hO dX8_share_86 (by decide) ?_
  refine pw_sub (lv1 := [(0, .ref v0), (1, .int v1), (2, .int v2), (3, .int v3), (4, .int (v4 + 1))]) [1, 2, 3, 4, 0] rfl ?_
  exact hrec24 F v0 v1 v2 v3 ((v4 + 1)) h
def g_X8_share_b24 : Nat → Hp → Nat → Int32 → Int32 → Int32 → Int32 → Option (Int32 × Hp)
  | 0, _, _, _, _, _, _ => none
  | n + 1, F, v0, v1, v2, v3, v4 => (if 8 ≤ v4 then (bnd2 (g_X8_fraction F v3 6 v2) fun x7 F6 => some (x7, F6)) else (bnd2 (g_X8_has F v4 v1) fun x9 F8 => (if x9 = 0 then (bnd2 (g_X8_ones F8 v4) fun x12 F11 => (bnd2 (g_X8_factorial F11 x12) fun x14 F13 => (bnd2 (g_X8_factorial F13 (2 - x12)) fun x16 F15 => (ckO F15 v0 8 (bnd2 (g_X8_energyBy F15 v0 v4 0) fun x18 F17 => (ckO F17 v0 8 (bnd2 (g_X8_energyBy F17 v0 (v4 ||| (1 <<< (v1 &&& 31))) 0) fun x20 F19 => g_X8_share_b83 (g_X8_share_b24 n) F19 v0 v1 v2 ((v3 + ((x14 * x16) * (x18 - x20)))) v4))))))) else g_X8_share_b83 (g_X8_share_b24 n) F8 v0 v1 v2 v3 v4)))
set_option maxHeartbeats 4000000 in
theorem bl_X8_share_b24 {X : Cx} {rx : Int32} {F' : Hp} (hX : Md X cX8_share RX8 6 (rmd 6) (some FieldType.int) false (some (.int rx)) F') : ∀ (n : Nat) (F : Hp) (v0 : Nat) (v1 : Int32) (v2 : Int32) (v3 : Int32) (v4 : Int32), g_X8_share_b24 n F v0 v1 v2 v3 v4 = some (rx, F') → PW X 0 0 F 24 [(0, .ref v0), (1, .int v1), (2, .int v2), (3, .int v3), (4, .int v4)] [] := by
  have hO := hX.1
  intro n
  induction n with
  | zero => intro F v0 v1 v2 v3 v4 h; rw [g_X8_share_b24] at h; cases h
  | succ n ih =>
    intro F v0 v1 v2 v3 v4 h
    rw [g_X8_share_b24] at h
    refine pw_iload hO dX8_share_24 4 rfl ?_
    refine pw_bipush hO dX8_share_26 (v := 8) (by decide) ?_
    refine pw_icmp_ge (tgt := 89) hO dX8_share_28 (by decide) h (fun c5 h => ?_) (fun c5 h => ?_)
    · refine pw_iload_n hO dX8_share_89 3 rfl ?_
      refine pw_bipush hO dX8_share_90 (v := 6) (by decide) ?_
      refine pw_iload_n hO dX8_share_92 2 rfl ?_
      refine pw_SI (as := [.int v3, .int 6, .int v2]) (st := []) (d := 1) hO [.int v2, .int 6, .int v3] dX8_share_93 sl_X8_209 h (fun r F1 hg n => ct_X8_fraction hg) ⟨Nat.le_of_ble_eq_true rfl, Nat.le_of_ble_eq_true rfl⟩ ⟨Nat.zero_le _, Nat.zero_le _⟩ (Nat.le_of_ble_eq_true rfl) (fun _ _ => rfl) rfl (fun x7 F6 h => ?_)
      exact pw_iret hO hX.2 dX8_share_96 h
    · refine pw_iload hO dX8_share_31 4 rfl ?_
      refine pw_iload_n hO dX8_share_33 1 rfl ?_
      refine pw_SI (as := [.int v4, .int v1]) (st := []) (d := 0) hO [.int v1, .int v4] dX8_share_34 sl_X8_69 h (fun r F1 hg n => ct_X8_has hg) ⟨Nat.le_of_ble_eq_true rfl, Nat.le_of_ble_eq_true rfl⟩ ⟨Nat.zero_le _, Nat.zero_le _⟩ (Nat.le_of_ble_eq_true rfl) (fun _ _ => rfl) rfl (fun x9 F8 h => ?_)
      refine pw_if_ne (tgt := 83) hO dX8_share_37 (by decide) h (fun c10 h => ?_) (fun c10 h => ?_)
      · refine pw_sub (lv1 := [(0, .ref v0), (1, .int v1), (2, .int v2), (3, .int v3), (4, .int v4)]) [0, 1, 2, 3, 4] rfl ?_
        exact bl_X8_share_b83 hX (g_X8_share_b24 n) ih F8 v0 v1 v2 v3 v4 h
      · refine pw_iload hO dX8_share_40 4 rfl ?_
        refine pw_SI (as := [.int v4]) (st := []) (d := 0) hO [.int v4] dX8_share_42 sl_X8_200 h (fun r F1 hg n => ct_X8_ones hg) ⟨Nat.le_of_ble_eq_true rfl, Nat.le_of_ble_eq_true rfl⟩ ⟨Nat.zero_le _, Nat.zero_le _⟩ (Nat.le_of_ble_eq_true rfl) (fun _ _ => rfl) rfl (fun x12 F11 h => ?_)
        refine pw_istore hO [(5, .int x12), (0, .ref v0), (1, .int v1), (2, .int v2), (3, .int v3), (4, .int v4)] dX8_share_45 (by decide) rfl ?_
        refine pw_iload_n hO dX8_share_47 4 rfl ?_
        refine pw_iload hO dX8_share_48 0 rfl ?_
        refine pw_SI (as := [.int x12]) (st := [.int v3]) (d := 0) hO [.int x12, .int v3] dX8_share_50 sl_X8_203 h (fun r F1 hg n => ct_X8_factorial hg) ⟨Nat.le_of_ble_eq_true rfl, Nat.le_of_ble_eq_true rfl⟩ ⟨Nat.zero_le _, Nat.zero_le _⟩ (Nat.le_of_ble_eq_true rfl) (fun _ _ => rfl) rfl (fun x14 F13 h => ?_)
        refine pw_iconst hO dX8_share_53 (v := 2) (by decide) ?_
        refine pw_iload hO dX8_share_54 0 rfl ?_
        refine pw_isub hO dX8_share_56 ?_
        refine pw_SI (as := [.int (2 - x12)]) (st := [.int x14, .int v3]) (d := 0) hO [.int (2 - x12), .int x14, .int v3] dX8_share_57 sl_X8_203 h (fun r F1 hg n => ct_X8_factorial hg) ⟨Nat.le_of_ble_eq_true rfl, Nat.le_of_ble_eq_true rfl⟩ ⟨Nat.zero_le _, Nat.zero_le _⟩ (Nat.le_of_ble_eq_true rfl) (fun _ _ => rfl) rfl (fun x16 F15 h => ?_)
        refine pw_imul hO dX8_share_60 ?_
        refine pw_aload_n hO dX8_share_61 1 rfl ?_
        refine pw_iload hO dX8_share_62 5 rfl ?_
        refine pw_iconst hO dX8_share_64 (v := 0) (by decide) ?_
        refine pw_VI (a := v0) (ci := 8) (as := [.int v4, .int 0]) (st := [.int (x14 * x16), .int v3]) (d := 5) hO [.int 0, .int v4, .ref v0, .int (x14 * x16), .int v3] dX8_share_65 vl_X8_206 h (fun r F1 hg n => ct_X8_energyBy hg) ⟨Nat.le_of_ble_eq_true rfl, Nat.le_of_ble_eq_true rfl⟩ ⟨Nat.zero_le _, Nat.zero_le _⟩ (Nat.le_of_ble_eq_true rfl) (fun _ _ => rfl) rfl (fun x18 F17 h => ?_)
        refine pw_aload_n hO dX8_share_68 1 rfl ?_
        refine pw_iload hO dX8_share_69 5 rfl ?_
        refine pw_iconst hO dX8_share_71 (v := 1) (by decide) ?_
        refine pw_iload_n hO dX8_share_72 2 rfl ?_
        refine pw_ishl hO dX8_share_73 ?_
        refine pw_ior hO dX8_share_74 ?_
        refine pw_iconst hO dX8_share_75 (v := 0) (by decide) ?_
        refine pw_VI (a := v0) (ci := 8) (as := [.int (v4 ||| (1 <<< (v1 &&& 31))), .int 0]) (st := [.int x18, .int (x14 * x16), .int v3]) (d := 5) hO [.int 0, .int (v4 ||| (1 <<< (v1 &&& 31))), .ref v0, .int x18, .int (x14 * x16), .int v3] dX8_share_76 vl_X8_206 h (fun r F1 hg n => ct_X8_energyBy hg) ⟨Nat.le_of_ble_eq_true rfl, Nat.le_of_ble_eq_true rfl⟩ ⟨Nat.zero_le _, Nat.zero_le _⟩ (Nat.le_of_ble_eq_true rfl) (fun _ _ => rfl) rfl (fun x20 F19 h => ?_)
        refine pw_isub hO dX8_share_79 ?_
        refine pw_imul hO dX8_share_80 ?_
        refine pw_iadd hO dX8_share_81 ?_
        refine pw_istore_n hO [(3, .int (v3 + ((x14 * x16) * (x18 - x20)))), (5, .int x12), (0, .ref v0), (1, .int v1), (2, .int v2), (4, .int v4)] dX8_share_82 (by decide) rfl ?_
        refine pw_sub (lv1 := [(0, .ref v0), (1, .int v1), (2, .int v2), (3, .int (v3 + ((x14 * x16) * (x18 - x20)))), (4, .int v4)]) [2, 3, 4, 0, 5] rfl ?_
        exact bl_X8_share_b83 hX (g_X8_share_b24 n) ih F19 v0 v1 v2 ((v3 + ((x14 * x16) * (x18 - x20)))) v4 h
def g_X8_share (F : Hp) (a0 : Nat) (a1 : Int32) (a2 : Int32) : Option (Int32 × Hp) := ((pV F a0 8 0 (.int 0)).bind fun F1 => (bnd2 (g_X8_in F1 (Int32.toInt64 a1) (0 : Int64) (2 : Int64)) fun x3 F2 => (if x3 = 0 then some ((-1), F2) else g_X8_share_b24 gF F2 a0 a1 a2 0 0)))
set_option maxHeartbeats 4000000 in
theorem bl_X8_share {X : Cx} {rx : Int32} {F' : Hp} (hX : Md X cX8_share RX8 6 (rmd 6) (some FieldType.int) false (some (.int rx)) F') (F : Hp) (a0 : Nat) (a1 : Int32) (a2 : Int32) (h : g_X8_share F a0 a1 a2 = some (rx, F')) : PW X 0 0 F 0 [(0, .ref a0), (1, .int a1), (2, .int a2)] [] := by
  have hO := hX.1
  unfold g_X8_share at h
  refine pw_aload_n hO dX8_share_0 0 rfl ?_
  refine pw_iconst hO dX8_share_1 (v := 0) (by decide) ?_
  refine pw_putI hO dX8_share_2 fp_X8_58 h (fun F1 h => ?_)
  refine pw_iload_n hO dX8_share_5 1 rfl ?_
  refine pw_i2l hO dX8_share_6 ?_
  refine pw_lconst hO dX8_share_7 (v := (0 : Int64)) (by decide) ?_
  refine pw_ldc2 hO dX8_share_8 kl_X8_163 ?_
  refine pw_SI (as := [.long (Int32.toInt64 a1), .long (0 : Int64), .long (2 : Int64)]) (st := []) (d := 0) hO [.long (2 : Int64), .long (0 : Int64), .long (Int32.toInt64 a1)] dX8_share_11 sl_X8_61 h (fun r F1 hg n => ct_X8_in hg) ⟨Nat.le_of_ble_eq_true rfl, Nat.le_of_ble_eq_true rfl⟩ ⟨Nat.zero_le _, Nat.zero_le _⟩ (Nat.le_of_ble_eq_true rfl) (fun _ _ => rfl) rfl (fun x3 F2 h => ?_)
  refine pw_if_ne (tgt := 19) hO dX8_share_14 (by decide) h (fun c4 h => ?_) (fun c4 h => ?_)
  · refine pw_iconst hO dX8_share_19 (v := 0) (by decide) ?_
    refine pw_istore_n hO [(3, .int 0), (0, .ref a0), (1, .int a1), (2, .int a2)] dX8_share_20 (by decide) rfl ?_
    refine pw_iconst hO dX8_share_21 (v := 0) (by decide) ?_
    refine pw_istore hO [(4, .int 0), (3, .int 0), (0, .ref a0), (1, .int a1), (2, .int a2)] dX8_share_22 (by decide) rfl ?_
    refine pw_sub (lv1 := [(0, .ref a0), (1, .int a1), (2, .int a2), (3, .int 0), (4, .int 0)]) [2, 3, 4, 1, 0] rfl ?_
    exact bl_X8_share_b24 hX gF F2 a0 a1 a2 0 0 h
  · refine pw_iconst hO dX8_share_17 (v := (-1)) (by decide) ?_
    exact pw_iret hO hX.2 dX8_share_18 h
theorem ct_X8_share {n : Nat} {F : Hp} {a0 : Nat} {a1 : Int32} {a2 : Int32} {rx : Int32} {F' : Hp} (h : g_X8_share F a0 a1 a2 = some (rx, F')) : CT yX8_share cX8_share 6 (some FieldType.int) (rmd 6) n F [.ref a0, .int a1, .int a2] (some (.int rx)) F' :=
  ct_intro (own := RX8) (nm := false) (by decide) rfl (fun h => by cases h) (Nat.le_of_ble_eq_true rfl) (fun X hn hX => bl_X8_share hX F a0 a1 a2 h)
def g_X8_luck_b120 (rec68 : Hp → Nat → Int32 → Int32 → Int32 → Int32 → Int32 → Int32 → Option (Int32 × Hp)) (F : Hp) (v0 : Nat) (v2 : Int32) (v3 : Int32) (v4 : Int32) (v5 : Int32) (v7 : Int32) (s0 : Int32) (s1 : Int32) : Option (Int32 × Hp) := rec68 F v0 v2 v3 v4 v5 ((s0 + s1)) ((v7 + 1))
set_option maxHeartbeats 4000000 in
theorem bl_X8_luck_b120 {X : Cx} {rx : Int32} {F' : Hp} (hX : Md X cX8_luck RX8 8 (rmd 6) (some FieldType.int) false (some (.int rx)) F') (rec68 : Hp → Nat → Int32 → Int32 → Int32 → Int32 → Int32 → Int32 → Option (Int32 × Hp)) (hrec68 : ∀ (F : Hp) (v0 : Nat) (v2 : Int32) (v3 : Int32) (v4 : Int32) (v5 : Int32) (v6 : Int32) (v7 : Int32), rec68 F v0 v2 v3 v4 v5 v6 v7 = some (rx, F') → PW X 0 0 F 68 [(0, .ref v0), (2, .int v2), (3, .int v3), (4, .int v4), (5, .int v5), (6, .int v6), (7, .int v7)] []) (F : Hp) (v0 : Nat) (v2 : Int32) (v3 : Int32) (v4 : Int32) (v5 : Int32) (v7 : Int32) (s0 : Int32) (s1 : Int32) (h : g_X8_luck_b120 rec68 F v0 v2 v3 v4 v5 v7 s0 s1 = some (rx, F')) : PW X 0 0 F 120 [(0, .ref v0), (2, .int v2), (3, .int v3), (4, .int v4), (5, .int v5), (7, .int v7)] [.int s1, .int s0] := by
  have hO := hX.1
  unfold g_X8_luck_b120 at h
  refine pw_iadd hO dX8_luck_120 ?_
  refine pw_istore hO [(6, .int (s0 + s1)), (0, .ref v0), (2, .int v2), (3, .int v3), (4, .int v4), (5, .int v5), (7, .int v7)] dX8_luck_121 (by decide) rfl ?_
  refine pw_iinc hO [(7, .int (v7 + 1)), (6, .int (s0 + s1)), (0, .ref v0), (2, .int v2), (3, .int v3), (4, .int v4), (5, .int v5)] dX8_luck_123 6 rfl rfl (by decide) rfl ?_
  refine pw_goto (tgt := 68) hO dX8_luck_126 (by decide) ?_
  refine pw_sub (lv1 := [(0, .ref v0), (2, .int v2), (3, .int v3), (4, .int v4), (5, .int v5), (6, .int (s0 + s1)), (7, .int (v7 + 1))]) [2, 3, 4, 5, 6, 1, 0] rfl ?_
  exact hrec68 F v0 v2 v3 v4 v5 ((s0 + s1)) ((v7 + 1)) h
def g_X8_luck_b68 : Nat → Hp → Nat → Int32 → Int32 → Int32 → Int32 → Int32 → Int32 → Option (Int32 × Hp)
  | 0, _, _, _, _, _, _, _, _ => none
  | n + 1, F, v0, v2, v3, v4, v5, v6, v7 => (if (1 <<< (v5 &&& 31)) ≤ v7 then (bnd2 (g_X8_power F 10 v5) fun x16 F15 => (bnd2 (g_X8_fraction F15 v6 x16 v4) fun x18 F17 => some (x18, F17))) else (ckO F v0 8 (bnd2 (g_X8_energyBy F v0 7 v7) fun x20 F19 => (if v2 < x20 then g_X8_luck_b120 (g_X8_luck_b68 n) F19 v0 v2 v3 v4 v5 v7 v6 0 else (bnd2 (g_X8_ones F19 v7) fun x23 F22 => (bnd2 (g_X8_power F22 v3 x23) fun x25 F24 => (bnd2 (g_X8_ones F24 v7) fun x27 F26 => (bnd2 (g_X8_power F26 (10 - v3) (v5 - x27)) fun x29 F28 => g_X8_luck_b120 (g_X8_luck_b68 n) F28 v0 v2 v3 v4 v5 v7 v6 ((x25 * x29))))))))))
set_option maxHeartbeats 4000000 in
theorem bl_X8_luck_b68 {X : Cx} {rx : Int32} {F' : Hp} (hX : Md X cX8_luck RX8 8 (rmd 6) (some FieldType.int) false (some (.int rx)) F') : ∀ (n : Nat) (F : Hp) (v0 : Nat) (v2 : Int32) (v3 : Int32) (v4 : Int32) (v5 : Int32) (v6 : Int32) (v7 : Int32), g_X8_luck_b68 n F v0 v2 v3 v4 v5 v6 v7 = some (rx, F') → PW X 0 0 F 68 [(0, .ref v0), (2, .int v2), (3, .int v3), (4, .int v4), (5, .int v5), (6, .int v6), (7, .int v7)] [] := by
  have hO := hX.1
  intro n
  induction n with
  | zero => intro F v0 v2 v3 v4 v5 v6 v7 h; rw [g_X8_luck_b68] at h; cases h
  | succ n ih =>
    intro F v0 v2 v3 v4 v5 v6 v7 h
    rw [g_X8_luck_b68] at h
    refine pw_iload hO dX8_luck_68 6 rfl ?_
    refine pw_iconst hO dX8_luck_70 (v := 1) (by decide) ?_
    refine pw_iload hO dX8_luck_71 4 rfl ?_
    refine pw_ishl hO dX8_luck_73 ?_
    refine pw_icmp_ge (tgt := 129) hO dX8_luck_74 (by decide) h (fun c14 h => ?_) (fun c14 h => ?_)
    · refine pw_iload hO dX8_luck_129 5 rfl ?_
      refine pw_bipush hO dX8_luck_131 (v := 10) (by decide) ?_
      refine pw_iload hO dX8_luck_133 4 rfl ?_
      refine pw_SI (as := [.int 10, .int v5]) (st := [.int v6]) (d := 0) hO [.int v5, .int 10, .int v6] dX8_luck_135 sl_X8_219 h (fun r F1 hg n => ct_X8_power hg) ⟨Nat.le_of_ble_eq_true rfl, Nat.le_of_ble_eq_true rfl⟩ ⟨Nat.zero_le _, Nat.zero_le _⟩ (Nat.le_of_ble_eq_true rfl) (fun _ _ => rfl) rfl (fun x16 F15 h => ?_)
      refine pw_iload hO dX8_luck_138 3 rfl ?_
      refine pw_SI (as := [.int v6, .int x16, .int v4]) (st := []) (d := 1) hO [.int v4, .int x16, .int v6] dX8_luck_140 sl_X8_209 h (fun r F1 hg n => ct_X8_fraction hg) ⟨Nat.le_of_ble_eq_true rfl, Nat.le_of_ble_eq_true rfl⟩ ⟨Nat.zero_le _, Nat.zero_le _⟩ (Nat.le_of_ble_eq_true rfl) (fun _ _ => rfl) rfl (fun x18 F17 h => ?_)
      exact pw_iret hO hX.2 dX8_luck_143 h
    · refine pw_iload hO dX8_luck_77 5 rfl ?_
      refine pw_aload_n hO dX8_luck_79 0 rfl ?_
      refine pw_bipush hO dX8_luck_80 (v := 7) (by decide) ?_
      refine pw_iload hO dX8_luck_82 6 rfl ?_
      refine pw_VI (a := v0) (ci := 8) (as := [.int 7, .int v7]) (st := [.int v6]) (d := 5) hO [.int v7, .int 7, .ref v0, .int v6] dX8_luck_84 vl_X8_206 h (fun r F1 hg n => ct_X8_energyBy hg) ⟨Nat.le_of_ble_eq_true rfl, Nat.le_of_ble_eq_true rfl⟩ ⟨Nat.zero_le _, Nat.zero_le _⟩ (Nat.le_of_ble_eq_true rfl) (fun _ _ => rfl) rfl (fun x20 F19 h => ?_)
      refine pw_iload_n hO dX8_luck_87 1 rfl ?_
      refine pw_icmp_gt (tgt := 119) hO dX8_luck_88 (by decide) h (fun c21 h => ?_) (fun c21 h => ?_)
      · refine pw_iconst hO dX8_luck_119 (v := 0) (by decide) ?_
        refine pw_sub (lv1 := [(0, .ref v0), (2, .int v2), (3, .int v3), (4, .int v4), (5, .int v5), (7, .int v7)]) [0, 1, 2, 3, 4, 6] rfl ?_
        exact bl_X8_luck_b120 hX (g_X8_luck_b68 n) ih F19 v0 v2 v3 v4 v5 v7 v6 0 h
      · refine pw_iload_n hO dX8_luck_91 2 rfl ?_
        refine pw_iload hO dX8_luck_92 6 rfl ?_
        refine pw_SI (as := [.int v7]) (st := [.int v3, .int v6]) (d := 0) hO [.int v7, .int v3, .int v6] dX8_luck_94 sl_X8_200 h (fun r F1 hg n => ct_X8_ones hg) ⟨Nat.le_of_ble_eq_true rfl, Nat.le_of_ble_eq_true rfl⟩ ⟨Nat.zero_le _, Nat.zero_le _⟩ (Nat.le_of_ble_eq_true rfl) (fun _ _ => rfl) rfl (fun x23 F22 h => ?_)
        refine pw_SI (as := [.int v3, .int x23]) (st := [.int v6]) (d := 0) hO [.int x23, .int v3, .int v6] dX8_luck_97 sl_X8_219 h (fun r F1 hg n => ct_X8_power hg) ⟨Nat.le_of_ble_eq_true rfl, Nat.le_of_ble_eq_true rfl⟩ ⟨Nat.zero_le _, Nat.zero_le _⟩ (Nat.le_of_ble_eq_true rfl) (fun _ _ => rfl) rfl (fun x25 F24 h => ?_)
        refine pw_bipush hO dX8_luck_100 (v := 10) (by decide) ?_
        refine pw_iload_n hO dX8_luck_102 2 rfl ?_
        refine pw_isub hO dX8_luck_103 ?_
        refine pw_iload hO dX8_luck_104 4 rfl ?_
        refine pw_iload hO dX8_luck_106 6 rfl ?_
        refine pw_SI (as := [.int v7]) (st := [.int v5, .int (10 - v3), .int x25, .int v6]) (d := 0) hO [.int v7, .int v5, .int (10 - v3), .int x25, .int v6] dX8_luck_108 sl_X8_200 h (fun r F1 hg n => ct_X8_ones hg) ⟨Nat.le_of_ble_eq_true rfl, Nat.le_of_ble_eq_true rfl⟩ ⟨Nat.zero_le _, Nat.zero_le _⟩ (Nat.le_of_ble_eq_true rfl) (fun _ _ => rfl) rfl (fun x27 F26 h => ?_)
        refine pw_isub hO dX8_luck_111 ?_
        refine pw_SI (as := [.int (10 - v3), .int (v5 - x27)]) (st := [.int x25, .int v6]) (d := 0) hO [.int (v5 - x27), .int (10 - v3), .int x25, .int v6] dX8_luck_112 sl_X8_219 h (fun r F1 hg n => ct_X8_power hg) ⟨Nat.le_of_ble_eq_true rfl, Nat.le_of_ble_eq_true rfl⟩ ⟨Nat.zero_le _, Nat.zero_le _⟩ (Nat.le_of_ble_eq_true rfl) (fun _ _ => rfl) rfl (fun x29 F28 h => ?_)
        refine pw_imul hO dX8_luck_115 ?_
        refine pw_goto (tgt := 120) hO dX8_luck_116 (by decide) ?_
        refine pw_sub (lv1 := [(0, .ref v0), (2, .int v2), (3, .int v3), (4, .int v4), (5, .int v5), (7, .int v7)]) [0, 1, 2, 3, 4, 6] rfl ?_
        exact bl_X8_luck_b120 hX (g_X8_luck_b68 n) ih F28 v0 v2 v3 v4 v5 v7 v6 ((x25 * x29)) h
def g_X8_luck_b60 (F : Hp) (v0 : Nat) (v2 : Int32) (v3 : Int32) (v4 : Int32) (s0 : Int32) : Option (Int32 × Hp) := g_X8_luck_b68 gF F v0 v2 v3 v4 s0 0 0
set_option maxHeartbeats 4000000 in
theorem bl_X8_luck_b60 {X : Cx} {rx : Int32} {F' : Hp} (hX : Md X cX8_luck RX8 8 (rmd 6) (some FieldType.int) false (some (.int rx)) F') (F : Hp) (v0 : Nat) (v2 : Int32) (v3 : Int32) (v4 : Int32) (s0 : Int32) (h : g_X8_luck_b60 F v0 v2 v3 v4 s0 = some (rx, F')) : PW X 0 0 F 60 [(0, .ref v0), (2, .int v2), (3, .int v3), (4, .int v4)] [.int s0] := by
  have hO := hX.1
  unfold g_X8_luck_b60 at h
  refine pw_istore hO [(5, .int s0), (0, .ref v0), (2, .int v2), (3, .int v3), (4, .int v4)] dX8_luck_60 (by decide) rfl ?_
  refine pw_iconst hO dX8_luck_62 (v := 0) (by decide) ?_
  refine pw_istore hO [(6, .int 0), (5, .int s0), (0, .ref v0), (2, .int v2), (3, .int v3), (4, .int v4)] dX8_luck_63 (by decide) rfl ?_
  refine pw_iconst hO dX8_luck_65 (v := 0) (by decide) ?_
  refine pw_istore hO [(7, .int 0), (6, .int 0), (5, .int s0), (0, .ref v0), (2, .int v2), (3, .int v3), (4, .int v4)] dX8_luck_66 (by decide) rfl ?_
  refine pw_sub (lv1 := [(0, .ref v0), (2, .int v2), (3, .int v3), (4, .int v4), (5, .int s0), (6, .int 0), (7, .int 0)]) [3, 4, 5, 6, 2, 1, 0] rfl ?_
  exact bl_X8_luck_b68 hX gF F v0 v2 v3 v4 s0 0 0 h
def g_X8_luck (F : Hp) (a0 : Nat) (a1 : Int32) (a2 : Int32) (a3 : Int32) (a4 : Int32) : Option (Int32 × Hp) := ((pV F a0 8 0 (.int 0)).bind fun F1 => (bnd2 (g_X8_in F1 (Int32.toInt64 a1) (0 : Int64) (6 : Int64)) fun x3 F2 => (if x3 = 0 then some ((-2), F2) else (bnd2 (g_X8_in F2 (Int32.toInt64 a2) (0 : Int64) (9999 : Int64)) fun x6 F5 => (if x6 = 0 then some ((-2), F5) else (bnd2 (g_X8_in F5 (Int32.toInt64 a3) (0 : Int64) (10 : Int64)) fun x9 F8 => (if x9 = 0 then some ((-2), F8) else (ckO F8 a0 8 (bnd2 (g_X8_letters F8 a0) fun x12 F11 => (if a1 ≤ x12 then g_X8_luck_b60 F11 a0 a2 a3 a4 a1 else (ckO F11 a0 8 (bnd2 (g_X8_letters F11 a0) fun x31 F30 => g_X8_luck_b60 F30 a0 a2 a3 a4 x31))))))))))))
set_option maxHeartbeats 4000000 in
theorem bl_X8_luck {X : Cx} {rx : Int32} {F' : Hp} (hX : Md X cX8_luck RX8 8 (rmd 6) (some FieldType.int) false (some (.int rx)) F') (F : Hp) (a0 : Nat) (a1 : Int32) (a2 : Int32) (a3 : Int32) (a4 : Int32) (h : g_X8_luck F a0 a1 a2 a3 a4 = some (rx, F')) : PW X 0 0 F 0 [(0, .ref a0), (1, .int a1), (2, .int a2), (3, .int a3), (4, .int a4)] [] := by
  have hO := hX.1
  unfold g_X8_luck at h
  refine pw_aload_n hO dX8_luck_0 0 rfl ?_
  refine pw_iconst hO dX8_luck_1 (v := 0) (by decide) ?_
  refine pw_putI hO dX8_luck_2 fp_X8_58 h (fun F1 h => ?_)
  refine pw_iload_n hO dX8_luck_5 1 rfl ?_
  refine pw_i2l hO dX8_luck_6 ?_
  refine pw_lconst hO dX8_luck_7 (v := (0 : Int64)) (by decide) ?_
  refine pw_ldc2 hO dX8_luck_8 kl_X8_213 ?_
  refine pw_SI (as := [.long (Int32.toInt64 a1), .long (0 : Int64), .long (6 : Int64)]) (st := []) (d := 0) hO [.long (6 : Int64), .long (0 : Int64), .long (Int32.toInt64 a1)] dX8_luck_11 sl_X8_61 h (fun r F1 hg n => ct_X8_in hg) ⟨Nat.le_of_ble_eq_true rfl, Nat.le_of_ble_eq_true rfl⟩ ⟨Nat.zero_le _, Nat.zero_le _⟩ (Nat.le_of_ble_eq_true rfl) (fun _ _ => rfl) rfl (fun x3 F2 h => ?_)
  refine pw_if_eq (tgt := 41) hO dX8_luck_14 (by decide) h (fun c4 h => ?_) (fun c4 h => ?_)
  · refine pw_bipush hO dX8_luck_41 (v := (-2)) (by decide) ?_
    exact pw_iret hO hX.2 dX8_luck_43 h
  · refine pw_iload_n hO dX8_luck_17 2 rfl ?_
    refine pw_i2l hO dX8_luck_18 ?_
    refine pw_lconst hO dX8_luck_19 (v := (0 : Int64)) (by decide) ?_
    refine pw_ldc2 hO dX8_luck_20 kl_X8_215 ?_
    refine pw_SI (as := [.long (Int32.toInt64 a2), .long (0 : Int64), .long (9999 : Int64)]) (st := []) (d := 0) hO [.long (9999 : Int64), .long (0 : Int64), .long (Int32.toInt64 a2)] dX8_luck_23 sl_X8_61 h (fun r F1 hg n => ct_X8_in hg) ⟨Nat.le_of_ble_eq_true rfl, Nat.le_of_ble_eq_true rfl⟩ ⟨Nat.zero_le _, Nat.zero_le _⟩ (Nat.le_of_ble_eq_true rfl) (fun _ _ => rfl) rfl (fun x6 F5 h => ?_)
    refine pw_if_eq (tgt := 41) hO dX8_luck_26 (by decide) h (fun c7 h => ?_) (fun c7 h => ?_)
    · refine pw_bipush hO dX8_luck_41 (v := (-2)) (by decide) ?_
      exact pw_iret hO hX.2 dX8_luck_43 h
    · refine pw_iload_n hO dX8_luck_29 3 rfl ?_
      refine pw_i2l hO dX8_luck_30 ?_
      refine pw_lconst hO dX8_luck_31 (v := (0 : Int64)) (by decide) ?_
      refine pw_ldc2 hO dX8_luck_32 kl_X8_217 ?_
      refine pw_SI (as := [.long (Int32.toInt64 a3), .long (0 : Int64), .long (10 : Int64)]) (st := []) (d := 0) hO [.long (10 : Int64), .long (0 : Int64), .long (Int32.toInt64 a3)] dX8_luck_35 sl_X8_61 h (fun r F1 hg n => ct_X8_in hg) ⟨Nat.le_of_ble_eq_true rfl, Nat.le_of_ble_eq_true rfl⟩ ⟨Nat.zero_le _, Nat.zero_le _⟩ (Nat.le_of_ble_eq_true rfl) (fun _ _ => rfl) rfl (fun x9 F8 h => ?_)
      refine pw_if_ne (tgt := 44) hO dX8_luck_38 (by decide) h (fun c10 h => ?_) (fun c10 h => ?_)
      · refine pw_aload_n hO dX8_luck_44 0 rfl ?_
        refine pw_VI (a := a0) (ci := 8) (as := []) (st := []) (d := 0) hO [.ref a0] dX8_luck_45 vl_X8_171 h (fun r F1 hg n => ct_X8_letters hg) ⟨Nat.le_of_ble_eq_true rfl, Nat.le_of_ble_eq_true rfl⟩ ⟨Nat.zero_le _, Nat.zero_le _⟩ (Nat.le_of_ble_eq_true rfl) (fun _ _ => rfl) rfl (fun x12 F11 h => ?_)
        refine pw_iload_n hO dX8_luck_48 1 rfl ?_
        refine pw_icmp_ge (tgt := 59) hO dX8_luck_49 (by decide) h (fun c13 h => ?_) (fun c13 h => ?_)
        · refine pw_iload_n hO dX8_luck_59 1 rfl ?_
          refine pw_sub (lv1 := [(0, .ref a0), (2, .int a2), (3, .int a3), (4, .int a4)]) [0, 2, 3, 4] rfl ?_
          exact bl_X8_luck_b60 hX F11 a0 a2 a3 a4 a1 h
        · refine pw_aload_n hO dX8_luck_52 0 rfl ?_
          refine pw_VI (a := a0) (ci := 8) (as := []) (st := []) (d := 0) hO [.ref a0] dX8_luck_53 vl_X8_171 h (fun r F1 hg n => ct_X8_letters hg) ⟨Nat.le_of_ble_eq_true rfl, Nat.le_of_ble_eq_true rfl⟩ ⟨Nat.zero_le _, Nat.zero_le _⟩ (Nat.le_of_ble_eq_true rfl) (fun _ _ => rfl) rfl (fun x31 F30 h => ?_)
          refine pw_goto (tgt := 60) hO dX8_luck_56 (by decide) ?_
          refine pw_sub (lv1 := [(0, .ref a0), (2, .int a2), (3, .int a3), (4, .int a4)]) [0, 2, 3, 4] rfl ?_
          exact bl_X8_luck_b60 hX F30 a0 a2 a3 a4 x31 h
      · refine pw_bipush hO dX8_luck_41 (v := (-2)) (by decide) ?_
        exact pw_iret hO hX.2 dX8_luck_43 h
theorem ct_X8_luck {n : Nat} {F : Hp} {a0 : Nat} {a1 : Int32} {a2 : Int32} {a3 : Int32} {a4 : Int32} {rx : Int32} {F' : Hp} (h : g_X8_luck F a0 a1 a2 a3 a4 = some (rx, F')) : CT yX8_luck cX8_luck 8 (some FieldType.int) (rmd 6) n F [.ref a0, .int a1, .int a2, .int a3, .int a4] (some (.int rx)) F' :=
  ct_intro (own := RX8) (nm := false) (by decide) rfl (fun h => by cases h) (Nat.le_of_ble_eq_true rfl) (fun X hn hX => bl_X8_luck hX F a0 a1 a2 a3 a4 h)
def g_X8_seed (F : Hp) (a0 : Nat) (a1 : Int64) : Option (Int64 × Hp) := ((pV F a0 8 0 (.int 0)).bind fun F1 => ((gL F1 a0 8 19).bind fun x2 => ((pV F1 a0 8 19 (.long a1)).bind fun F3 => some (x2, F3))))
set_option maxHeartbeats 4000000 in
theorem bl_X8_seed {X : Cx} {rx : Int64} {F' : Hp} (hX : Md X cX8_seed RX8 5 (rmd 0) (some FieldType.long) false (some (.long rx)) F') (F : Hp) (a0 : Nat) (a1 : Int64) (h : g_X8_seed F a0 a1 = some (rx, F')) : PW X 0 0 F 0 [(0, .ref a0), (1, .long a1)] [] := by
  have hO := hX.1
  unfold g_X8_seed at h
  refine pw_aload_n hO dX8_seed_0 0 rfl ?_
  refine pw_iconst hO dX8_seed_1 (v := 0) (by decide) ?_
  refine pw_putI hO dX8_seed_2 fp_X8_58 h (fun F1 h => ?_)
  refine pw_aload_n hO dX8_seed_5 0 rfl ?_
  refine pw_getL hO dX8_seed_6 fl_X8_222 h (fun x2 h => ?_)
  refine pw_lstore_n hO [(3, .long x2), (0, .ref a0), (1, .long a1)] dX8_seed_9 (by decide) rfl ?_
  refine pw_aload_n hO dX8_seed_10 1 rfl ?_
  refine pw_lload_n hO dX8_seed_11 2 rfl ?_
  refine pw_putL hO dX8_seed_12 fp_X8_222 h (fun F3 h => ?_)
  refine pw_lload_n hO dX8_seed_15 0 rfl ?_
  exact pw_lret hO hX.2 dX8_seed_16 h
theorem ct_X8_seed {n : Nat} {F : Hp} {a0 : Nat} {a1 : Int64} {rx : Int64} {F' : Hp} (h : g_X8_seed F a0 a1 = some (rx, F')) : CT yX8_seed cX8_seed 5 (some FieldType.long) (rmd 0) n F [.ref a0, .long a1] (some (.long rx)) F' :=
  ct_intro (own := RX8) (nm := false) (by decide) rfl (fun h => by cases h) (Nat.le_of_ble_eq_true rfl) (fun X hn hX => bl_X8_seed hX F a0 a1 h)
def g_X8_drawn_b95 (rec33 : Hp → Nat → Int32 → Int32 → Option (Int32 × Hp)) (F : Hp) (v0 : Nat) (v1 : Int32) (v2 : Int32) : Option (Int32 × Hp) := ((gR F v0 8 11).bind fun q18 => (ckO F v0 8 ((g_X8_tick F v0 q18).bind fun F19 => rec33 F19 v0 v1 ((v2 + 1)))))
set_option maxHeartbeats 4000000 in
theorem bl_X8_drawn_b95 {X : Cx} {rx : Int32} {F' : Hp} (hX : Md X cX8_drawn RX8 4 (rmd 3) (some FieldType.int) false (some (.int rx)) F') (rec33 : Hp → Nat → Int32 → Int32 → Option (Int32 × Hp)) (hrec33 : ∀ (F : Hp) (v0 : Nat) (v1 : Int32) (v2 : Int32), rec33 F v0 v1 v2 = some (rx, F') → PW X 0 0 F 33 [(0, .ref v0), (1, .int v1), (2, .int v2)] []) (F : Hp) (v0 : Nat) (v1 : Int32) (v2 : Int32) (h : g_X8_drawn_b95 rec33 F v0 v1 v2 = some (rx, F')) : PW X 0 0 F 95 [(0, .ref v0), (1, .int v1), (2, .int v2)] [] := by
  have hO := hX.1
  unfold g_X8_drawn_b95 at h
  refine pw_aload_n hO dX8_drawn_95 0 rfl ?_
  refine pw_aload_n hO dX8_drawn_96 0 rfl ?_
  refine pw_getR hO dX8_drawn_97 fl_X8_28 h (fun q18 h => ?_)
  refine pw_V0 (a := v0) (ci := 8) (as := [.ref q18]) (st := []) (d := 2) hO [.ref q18, .ref v0] dX8_drawn_100 vl_X8_96 h (fun F1 hg n => ct_X8_tick hg) ⟨Nat.le_of_ble_eq_true rfl, Nat.le_of_ble_eq_true rfl⟩ ⟨Nat.zero_le _, Nat.zero_le _⟩ (Nat.le_of_ble_eq_true rfl) (fun _ _ => rfl) rfl (fun F19 h => ?_)
  refine pw_iinc hO [(2, .int (v2 + 1)), (0, .ref v0), (1, .int v1)] dX8_drawn_103 2 rfl rfl (by decide) rfl ?_
  refine pw_goto (tgt := 33) hO dX8_drawn_106 (by decide) ?_
  refine pw_sub (lv1 := [(0, .ref v0), (1, .int v1), (2, .int (v2 + 1))]) [1, 2, 0] rfl ?_
  exact hrec33 F19 v0 v1 ((v2 + 1)) h
def g_X8_drawn_b33 : Nat → Hp → Nat → Int32 → Int32 → Option (Int32 × Hp)
  | 0, _, _, _, _ => none
  | n + 1, F, v0, v1, v2 => (if v1 ≤ v2 then ((gR F v0 8 11).bind fun q10 => ((aI F q10 0 6).bind fun x11 => ((gR F v0 8 7).bind fun q12 => ((aI F q12 0 6).bind fun x13 => some ((x11 - x13), F))))) else ((gL F v0 8 19).bind fun x14 => ((pV F v0 8 19 (.long ((x14 * (6364136223846793005 : Int64)) + (1442695040888963407 : Int64)))).bind fun F15 => ((gL F15 v0 8 19).bind fun x16 => (if (jrem ((Int64.toInt32 (jlushr x16 33)) / 2) 4) = 0 then ((gR F15 v0 8 11).bind fun q21 => (bnd2 (g_X8_isFull F15 q21 (jrem (Int64.toInt32 (jlushr x16 33)) 2)) fun x23 F22 => (if x23 = 0 then ((gR F22 v0 8 11).bind fun q25 => ((g_X8_comeOn F22 q25 (jrem (Int64.toInt32 (jlushr x16 33)) 2) 0).bind fun F26 => g_X8_drawn_b95 (g_X8_drawn_b33 n) F26 v0 v1 v2)) else g_X8_drawn_b95 (g_X8_drawn_b33 n) F22 v0 v1 v2))) else g_X8_drawn_b95 (g_X8_drawn_b33 n) F15 v0 v1 v2)))))
set_option maxHeartbeats 4000000 in
theorem bl_X8_drawn_b33 {X : Cx} {rx : Int32} {F' : Hp} (hX : Md X cX8_drawn RX8 4 (rmd 3) (some FieldType.int) false (some (.int rx)) F') : ∀ (n : Nat) (F : Hp) (v0 : Nat) (v1 : Int32) (v2 : Int32), g_X8_drawn_b33 n F v0 v1 v2 = some (rx, F') → PW X 0 0 F 33 [(0, .ref v0), (1, .int v1), (2, .int v2)] [] := by
  have hO := hX.1
  intro n
  induction n with
  | zero => intro F v0 v1 v2 h; rw [g_X8_drawn_b33] at h; cases h
  | succ n ih =>
    intro F v0 v1 v2 h
    rw [g_X8_drawn_b33] at h
    refine pw_iload_n hO dX8_drawn_33 2 rfl ?_
    refine pw_iload_n hO dX8_drawn_34 1 rfl ?_
    refine pw_icmp_ge (tgt := 109) hO dX8_drawn_35 (by decide) h (fun c9 h => ?_) (fun c9 h => ?_)
    · refine pw_aload_n hO dX8_drawn_109 0 rfl ?_
      refine pw_getR hO dX8_drawn_110 fl_X8_28 h (fun q10 h => ?_)
      refine pw_bipush hO dX8_drawn_113 (v := 6) (by decide) ?_
      refine pw_iald hO dX8_drawn_115 h (fun x11 h => ?_)
      refine pw_aload_n hO dX8_drawn_116 0 rfl ?_
      refine pw_getR hO dX8_drawn_117 fl_X8_19 h (fun q12 h => ?_)
      refine pw_bipush hO dX8_drawn_120 (v := 6) (by decide) ?_
      refine pw_iald hO dX8_drawn_122 h (fun x13 h => ?_)
      refine pw_isub hO dX8_drawn_123 ?_
      exact pw_iret hO hX.2 dX8_drawn_124 h
    · refine pw_aload_n hO dX8_drawn_38 0 rfl ?_
      refine pw_aload_n hO dX8_drawn_39 0 rfl ?_
      refine pw_getL hO dX8_drawn_40 fl_X8_222 h (fun x14 h => ?_)
      refine pw_ldc2 hO dX8_drawn_43 kl_X8_228 ?_
      refine pw_lmul hO dX8_drawn_46 ?_
      refine pw_ldc2 hO dX8_drawn_47 kl_X8_230 ?_
      refine pw_ladd hO dX8_drawn_50 ?_
      refine pw_putL hO dX8_drawn_51 fp_X8_222 h (fun F15 h => ?_)
      refine pw_aload_n hO dX8_drawn_54 0 rfl ?_
      refine pw_getL hO dX8_drawn_55 fl_X8_222 h (fun x16 h => ?_)
      refine pw_bipush hO dX8_drawn_58 (v := 33) (by decide) ?_
      refine pw_lushr hO dX8_drawn_60 ?_
      refine pw_l2i hO dX8_drawn_61 ?_
      refine pw_istore_n hO [(3, .int (Int64.toInt32 (jlushr x16 33))), (0, .ref v0), (1, .int v1), (2, .int v2)] dX8_drawn_62 (by decide) rfl ?_
      refine pw_iload_n hO dX8_drawn_63 0 rfl ?_
      refine pw_iconst hO dX8_drawn_64 (v := 2) (by decide) ?_
      refine pw_idivc hO dX8_drawn_65 (by decide) ?_
      refine pw_iconst hO dX8_drawn_66 (v := 4) (by decide) ?_
      refine pw_iremc hO dX8_drawn_67 (by decide) ?_
      refine pw_if_ne (tgt := 95) hO dX8_drawn_68 (by decide) h (fun c17 h => ?_) (fun c17 h => ?_)
      · refine pw_sub (lv1 := [(0, .ref v0), (1, .int v1), (2, .int v2)]) [1, 2, 3] rfl ?_
        exact bl_X8_drawn_b95 hX (g_X8_drawn_b33 n) ih F15 v0 v1 v2 h
      · refine pw_aload_n hO dX8_drawn_71 1 rfl ?_
        refine pw_getR hO dX8_drawn_72 fl_X8_28 h (fun q21 h => ?_)
        refine pw_iload_n hO dX8_drawn_75 0 rfl ?_
        refine pw_iconst hO dX8_drawn_76 (v := 2) (by decide) ?_
        refine pw_iremc hO dX8_drawn_77 (by decide) ?_
        refine pw_SI (as := [.ref q21, .int (jrem (Int64.toInt32 (jlushr x16 33)) 2)]) (st := []) (d := 1) hO [.int (jrem (Int64.toInt32 (jlushr x16 33)) 2), .ref q21] dX8_drawn_78 sl_X8_123 h (fun r F1 hg n => ct_X8_isFull hg) ⟨Nat.le_of_ble_eq_true rfl, Nat.le_of_ble_eq_true rfl⟩ ⟨Nat.zero_le _, Nat.zero_le _⟩ (Nat.le_of_ble_eq_true rfl) (fun _ _ => rfl) rfl (fun x23 F22 h => ?_)
        refine pw_if_ne (tgt := 95) hO dX8_drawn_81 (by decide) h (fun c24 h => ?_) (fun c24 h => ?_)
        · refine pw_sub (lv1 := [(0, .ref v0), (1, .int v1), (2, .int v2)]) [1, 2, 3] rfl ?_
          exact bl_X8_drawn_b95 hX (g_X8_drawn_b33 n) ih F22 v0 v1 v2 h
        · refine pw_aload_n hO dX8_drawn_84 1 rfl ?_
          refine pw_getR hO dX8_drawn_85 fl_X8_28 h (fun q25 h => ?_)
          refine pw_iload_n hO dX8_drawn_88 0 rfl ?_
          refine pw_iconst hO dX8_drawn_89 (v := 2) (by decide) ?_
          refine pw_iremc hO dX8_drawn_90 (by decide) ?_
          refine pw_iconst hO dX8_drawn_91 (v := 0) (by decide) ?_
          refine pw_S0 (as := [.ref q25, .int (jrem (Int64.toInt32 (jlushr x16 33)) 2), .int 0]) (st := []) (d := 1) hO [.int 0, .int (jrem (Int64.toInt32 (jlushr x16 33)) 2), .ref q25] dX8_drawn_92 sl_X8_126 h (fun F1 hg n => ct_X8_comeOn hg) ⟨Nat.le_of_ble_eq_true rfl, Nat.le_of_ble_eq_true rfl⟩ ⟨Nat.zero_le _, Nat.zero_le _⟩ (Nat.le_of_ble_eq_true rfl) (fun _ _ => rfl) rfl (fun F26 h => ?_)
          refine pw_sub (lv1 := [(0, .ref v0), (1, .int v1), (2, .int v2)]) [1, 2, 3] rfl ?_
          exact bl_X8_drawn_b95 hX (g_X8_drawn_b33 n) ih F26 v0 v1 v2 h
def g_X8_drawn (F : Hp) (a0 : Nat) (a1 : Int32) : Option (Int32 × Hp) := ((pV F a0 8 0 (.int 0)).bind fun F1 => (bnd2 (g_X8_in F1 (Int32.toInt64 a1) (1 : Int64) (60 : Int64)) fun x3 F2 => (if x3 = 0 then some ((-2), F2) else ((gR F2 a0 8 7).bind fun q5 => ((gR F2 a0 8 11).bind fun q6 => ((g_X8_lay F2 q5 q6).bind fun F7 => g_X8_drawn_b33 gF F7 a0 a1 0))))))
set_option maxHeartbeats 4000000 in
theorem bl_X8_drawn {X : Cx} {rx : Int32} {F' : Hp} (hX : Md X cX8_drawn RX8 4 (rmd 3) (some FieldType.int) false (some (.int rx)) F') (F : Hp) (a0 : Nat) (a1 : Int32) (h : g_X8_drawn F a0 a1 = some (rx, F')) : PW X 0 0 F 0 [(0, .ref a0), (1, .int a1)] [] := by
  have hO := hX.1
  unfold g_X8_drawn at h
  refine pw_aload_n hO dX8_drawn_0 0 rfl ?_
  refine pw_iconst hO dX8_drawn_1 (v := 0) (by decide) ?_
  refine pw_putI hO dX8_drawn_2 fp_X8_58 h (fun F1 h => ?_)
  refine pw_iload_n hO dX8_drawn_5 1 rfl ?_
  refine pw_i2l hO dX8_drawn_6 ?_
  refine pw_lconst hO dX8_drawn_7 (v := (1 : Int64)) (by decide) ?_
  refine pw_ldc2 hO dX8_drawn_8 kl_X8_226 ?_
  refine pw_SI (as := [.long (Int32.toInt64 a1), .long (1 : Int64), .long (60 : Int64)]) (st := []) (d := 0) hO [.long (60 : Int64), .long (1 : Int64), .long (Int32.toInt64 a1)] dX8_drawn_11 sl_X8_61 h (fun r F1 hg n => ct_X8_in hg) ⟨Nat.le_of_ble_eq_true rfl, Nat.le_of_ble_eq_true rfl⟩ ⟨Nat.zero_le _, Nat.zero_le _⟩ (Nat.le_of_ble_eq_true rfl) (fun _ _ => rfl) rfl (fun x3 F2 h => ?_)
  refine pw_if_ne (tgt := 20) hO dX8_drawn_14 (by decide) h (fun c4 h => ?_) (fun c4 h => ?_)
  · refine pw_aload_n hO dX8_drawn_20 0 rfl ?_
    refine pw_getR hO dX8_drawn_21 fl_X8_19 h (fun q5 h => ?_)
    refine pw_aload_n hO dX8_drawn_24 0 rfl ?_
    refine pw_getR hO dX8_drawn_25 fl_X8_28 h (fun q6 h => ?_)
    refine pw_S0 (as := [.ref q5, .ref q6]) (st := []) (d := 0) hO [.ref q6, .ref q5] dX8_drawn_28 sl_X8_89 h (fun F1 hg n => ct_X8_lay hg) ⟨Nat.le_of_ble_eq_true rfl, Nat.le_of_ble_eq_true rfl⟩ ⟨Nat.zero_le _, Nat.zero_le _⟩ (Nat.le_of_ble_eq_true rfl) (fun _ _ => rfl) rfl (fun F7 h => ?_)
    refine pw_iconst hO dX8_drawn_31 (v := 0) (by decide) ?_
    refine pw_istore_n hO [(2, .int 0), (0, .ref a0), (1, .int a1)] dX8_drawn_32 (by decide) rfl ?_
    refine pw_sub (lv1 := [(0, .ref a0), (1, .int a1), (2, .int 0)]) [1, 2, 0] rfl ?_
    exact bl_X8_drawn_b33 hX gF F7 a0 a1 0 h
  · refine pw_bipush hO dX8_drawn_17 (v := (-2)) (by decide) ?_
    exact pw_iret hO hX.2 dX8_drawn_19 h
theorem ct_X8_drawn {n : Nat} {F : Hp} {a0 : Nat} {a1 : Int32} {rx : Int32} {F' : Hp} (h : g_X8_drawn F a0 a1 = some (rx, F')) : CT yX8_drawn cX8_drawn 4 (some FieldType.int) (rmd 3) n F [.ref a0, .int a1] (some (.int rx)) F' :=
  ct_intro (own := RX8) (nm := false) (by decide) rfl (fun h => by cases h) (Nat.le_of_ble_eq_true rfl) (fun X hn hX => bl_X8_drawn hX F a0 a1 h)
def g_X8_keep_b26 : Nat → Hp → Nat → Int32 → Int32 → Option (Int32 × Hp)
  | 0, _, _, _, _ => none
  | n + 1, F, v0, v1, v2 => (if 39 ≤ v2 then ((gR F v0 8 7).bind fun q8 => ((aI F q8 0 3).bind fun x9 => some (x9, F))) else ((gR F v0 8 14).bind fun q10 => ((gR F v0 8 7).bind fun q11 => ((aI F q11 0 v2).bind fun x12 => ((sI F q10 0 ((39 * v1) + v2) x12).bind fun F13 => g_X8_keep_b26 n F13 v0 v1 ((v2 + 1)))))))
set_option maxHeartbeats 4000000 in
theorem bl_X8_keep_b26 {X : Cx} {rx : Int32} {F' : Hp} (hX : Md X cX8_keep RX8 3 (rmd 1) (some FieldType.int) false (some (.int rx)) F') : ∀ (n : Nat) (F : Hp) (v0 : Nat) (v1 : Int32) (v2 : Int32), g_X8_keep_b26 n F v0 v1 v2 = some (rx, F') → PW X 0 0 F 26 [(0, .ref v0), (1, .int v1), (2, .int v2)] [] := by
  have hO := hX.1
  intro n
  induction n with
  | zero => intro F v0 v1 v2 h; rw [g_X8_keep_b26] at h; cases h
  | succ n ih =>
    intro F v0 v1 v2 h
    rw [g_X8_keep_b26] at h
    refine pw_iload_n hO dX8_keep_26 2 rfl ?_
    refine pw_bipush hO dX8_keep_27 (v := 39) (by decide) ?_
    refine pw_icmp_ge (tgt := 55) hO dX8_keep_29 (by decide) h (fun c7 h => ?_) (fun c7 h => ?_)
    · refine pw_aload_n hO dX8_keep_55 0 rfl ?_
      refine pw_getR hO dX8_keep_56 fl_X8_19 h (fun q8 h => ?_)
      refine pw_iconst hO dX8_keep_59 (v := 3) (by decide) ?_
      refine pw_iald hO dX8_keep_60 h (fun x9 h => ?_)
      exact pw_iret hO hX.2 dX8_keep_61 h
    · refine pw_aload_n hO dX8_keep_32 0 rfl ?_
      refine pw_getR hO dX8_keep_33 fl_X8_34 h (fun q10 h => ?_)
      refine pw_bipush hO dX8_keep_36 (v := 39) (by decide) ?_
      refine pw_iload_n hO dX8_keep_38 1 rfl ?_
      refine pw_imul hO dX8_keep_39 ?_
      refine pw_iload_n hO dX8_keep_40 2 rfl ?_
      refine pw_iadd hO dX8_keep_41 ?_
      refine pw_aload_n hO dX8_keep_42 0 rfl ?_
      refine pw_getR hO dX8_keep_43 fl_X8_19 h (fun q11 h => ?_)
      refine pw_iload_n hO dX8_keep_46 2 rfl ?_
      refine pw_iald hO dX8_keep_47 h (fun x12 h => ?_)
      refine pw_iast hO dX8_keep_48 h (fun F13 h => ?_)
      refine pw_iinc hO [(2, .int (v2 + 1)), (0, .ref v0), (1, .int v1)] dX8_keep_49 2 rfl rfl (by decide) rfl ?_
      refine pw_goto (tgt := 26) hO dX8_keep_52 (by decide) ?_
      refine pw_sub (lv1 := [(0, .ref v0), (1, .int v1), (2, .int (v2 + 1))]) [1, 2, 0] rfl ?_
      exact ih F13 v0 v1 ((v2 + 1)) h
def g_X8_keep (F : Hp) (a0 : Nat) (a1 : Int32) : Option (Int32 × Hp) := ((pV F a0 8 0 (.int 0)).bind fun F1 => (bnd2 (g_X8_in F1 (Int32.toInt64 a1) (0 : Int64) (1 : Int64)) fun x3 F2 => (if x3 = 0 then some ((-1), F2) else ((gR F2 a0 8 15).bind fun q5 => ((sI F2 q5 1 a1 1).bind fun F6 => g_X8_keep_b26 gF F6 a0 a1 0)))))
set_option maxHeartbeats 4000000 in
theorem bl_X8_keep {X : Cx} {rx : Int32} {F' : Hp} (hX : Md X cX8_keep RX8 3 (rmd 1) (some FieldType.int) false (some (.int rx)) F') (F : Hp) (a0 : Nat) (a1 : Int32) (h : g_X8_keep F a0 a1 = some (rx, F')) : PW X 0 0 F 0 [(0, .ref a0), (1, .int a1)] [] := by
  have hO := hX.1
  unfold g_X8_keep at h
  refine pw_aload_n hO dX8_keep_0 0 rfl ?_
  refine pw_iconst hO dX8_keep_1 (v := 0) (by decide) ?_
  refine pw_putI hO dX8_keep_2 fp_X8_58 h (fun F1 h => ?_)
  refine pw_iload_n hO dX8_keep_5 1 rfl ?_
  refine pw_i2l hO dX8_keep_6 ?_
  refine pw_lconst hO dX8_keep_7 (v := (0 : Int64)) (by decide) ?_
  refine pw_lconst hO dX8_keep_8 (v := (1 : Int64)) (by decide) ?_
  refine pw_SI (as := [.long (Int32.toInt64 a1), .long (0 : Int64), .long (1 : Int64)]) (st := []) (d := 0) hO [.long (1 : Int64), .long (0 : Int64), .long (Int32.toInt64 a1)] dX8_keep_9 sl_X8_61 h (fun r F1 hg n => ct_X8_in hg) ⟨Nat.le_of_ble_eq_true rfl, Nat.le_of_ble_eq_true rfl⟩ ⟨Nat.zero_le _, Nat.zero_le _⟩ (Nat.le_of_ble_eq_true rfl) (fun _ _ => rfl) rfl (fun x3 F2 h => ?_)
  refine pw_if_ne (tgt := 17) hO dX8_keep_12 (by decide) h (fun c4 h => ?_) (fun c4 h => ?_)
  · refine pw_aload_n hO dX8_keep_17 0 rfl ?_
    refine pw_getR hO dX8_keep_18 fl_X8_37 h (fun q5 h => ?_)
    refine pw_iload_n hO dX8_keep_21 1 rfl ?_
    refine pw_iconst hO dX8_keep_22 (v := 1) (by decide) ?_
    refine pw_zast hO dX8_keep_23 (by decide) h (fun F6 h => ?_)
    refine pw_iconst hO dX8_keep_24 (v := 0) (by decide) ?_
    refine pw_istore_n hO [(2, .int 0), (0, .ref a0), (1, .int a1)] dX8_keep_25 (by decide) rfl ?_
    refine pw_sub (lv1 := [(0, .ref a0), (1, .int a1), (2, .int 0)]) [1, 2, 0] rfl ?_
    exact bl_X8_keep_b26 hX gF F6 a0 a1 0 h
  · refine pw_iconst hO dX8_keep_15 (v := (-1)) (by decide) ?_
    exact pw_iret hO hX.2 dX8_keep_16 h
theorem ct_X8_keep {n : Nat} {F : Hp} {a0 : Nat} {a1 : Int32} {rx : Int32} {F' : Hp} (h : g_X8_keep F a0 a1 = some (rx, F')) : CT yX8_keep cX8_keep 3 (some FieldType.int) (rmd 1) n F [.ref a0, .int a1] (some (.int rx)) F' :=
  ct_intro (own := RX8) (nm := false) (by decide) rfl (fun h => by cases h) (Nat.le_of_ble_eq_true rfl) (fun X hn hX => bl_X8_keep hX F a0 a1 h)
def g_X8_again_b31 : Nat → Hp → Nat → Int32 → Int32 → Option (Int32 × Hp)
  | 0, _, _, _, _ => none
  | n + 1, F, v0, v1, v2 => (if 39 ≤ v2 then ((pV F v0 8 13 (.int 0)).bind fun F9 => ((gR F9 v0 8 7).bind fun q10 => ((aI F9 q10 0 3).bind fun x11 => some (x11, F9)))) else ((gR F v0 8 7).bind fun q12 => ((gR F v0 8 14).bind fun q13 => ((aI F q13 0 ((39 * v1) + v2)).bind fun x14 => ((sI F q12 0 v2 x14).bind fun F15 => g_X8_again_b31 n F15 v0 v1 ((v2 + 1)))))))
set_option maxHeartbeats 4000000 in
theorem bl_X8_again_b31 {X : Cx} {rx : Int32} {F' : Hp} (hX : Md X cX8_again RX8 3 (rmd 1) (some FieldType.int) false (some (.int rx)) F') : ∀ (n : Nat) (F : Hp) (v0 : Nat) (v1 : Int32) (v2 : Int32), g_X8_again_b31 n F v0 v1 v2 = some (rx, F') → PW X 0 0 F 31 [(0, .ref v0), (1, .int v1), (2, .int v2)] [] := by
  have hO := hX.1
  intro n
  induction n with
  | zero => intro F v0 v1 v2 h; rw [g_X8_again_b31] at h; cases h
  | succ n ih =>
    intro F v0 v1 v2 h
    rw [g_X8_again_b31] at h
    refine pw_iload_n hO dX8_again_31 2 rfl ?_
    refine pw_bipush hO dX8_again_32 (v := 39) (by decide) ?_
    refine pw_icmp_ge (tgt := 60) hO dX8_again_34 (by decide) h (fun c8 h => ?_) (fun c8 h => ?_)
    · refine pw_aload_n hO dX8_again_60 0 rfl ?_
      refine pw_iconst hO dX8_again_61 (v := 0) (by decide) ?_
      refine pw_putI hO dX8_again_62 fp_X8_136 h (fun F9 h => ?_)
      refine pw_aload_n hO dX8_again_65 0 rfl ?_
      refine pw_getR hO dX8_again_66 fl_X8_19 h (fun q10 h => ?_)
      refine pw_iconst hO dX8_again_69 (v := 3) (by decide) ?_
      refine pw_iald hO dX8_again_70 h (fun x11 h => ?_)
      exact pw_iret hO hX.2 dX8_again_71 h
    · refine pw_aload_n hO dX8_again_37 0 rfl ?_
      refine pw_getR hO dX8_again_38 fl_X8_19 h (fun q12 h => ?_)
      refine pw_iload_n hO dX8_again_41 2 rfl ?_
      refine pw_aload_n hO dX8_again_42 0 rfl ?_
      refine pw_getR hO dX8_again_43 fl_X8_34 h (fun q13 h => ?_)
      refine pw_bipush hO dX8_again_46 (v := 39) (by decide) ?_
      refine pw_iload_n hO dX8_again_48 1 rfl ?_
      refine pw_imul hO dX8_again_49 ?_
      refine pw_iload_n hO dX8_again_50 2 rfl ?_
      refine pw_iadd hO dX8_again_51 ?_
      refine pw_iald hO dX8_again_52 h (fun x14 h => ?_)
      refine pw_iast hO dX8_again_53 h (fun F15 h => ?_)
      refine pw_iinc hO [(2, .int (v2 + 1)), (0, .ref v0), (1, .int v1)] dX8_again_54 2 rfl rfl (by decide) rfl ?_
      refine pw_goto (tgt := 31) hO dX8_again_57 (by decide) ?_
      refine pw_sub (lv1 := [(0, .ref v0), (1, .int v1), (2, .int (v2 + 1))]) [1, 2, 0] rfl ?_
      exact ih F15 v0 v1 ((v2 + 1)) h
def g_X8_again (F : Hp) (a0 : Nat) (a1 : Int32) : Option (Int32 × Hp) := ((pV F a0 8 0 (.int 0)).bind fun F1 => (bnd2 (g_X8_in F1 (Int32.toInt64 a1) (0 : Int64) (1 : Int64)) fun x3 F2 => (if x3 = 0 then some ((-1), F2) else ((gR F2 a0 8 15).bind fun q5 => ((aI F2 q5 1 a1).bind fun x6 => (if x6 = 0 then some ((-3), F2) else g_X8_again_b31 gF F2 a0 a1 0))))))
set_option maxHeartbeats 4000000 in
theorem bl_X8_again {X : Cx} {rx : Int32} {F' : Hp} (hX : Md X cX8_again RX8 3 (rmd 1) (some FieldType.int) false (some (.int rx)) F') (F : Hp) (a0 : Nat) (a1 : Int32) (h : g_X8_again F a0 a1 = some (rx, F')) : PW X 0 0 F 0 [(0, .ref a0), (1, .int a1)] [] := by
  have hO := hX.1
  unfold g_X8_again at h
  refine pw_aload_n hO dX8_again_0 0 rfl ?_
  refine pw_iconst hO dX8_again_1 (v := 0) (by decide) ?_
  refine pw_putI hO dX8_again_2 fp_X8_58 h (fun F1 h => ?_)
  refine pw_iload_n hO dX8_again_5 1 rfl ?_
  refine pw_i2l hO dX8_again_6 ?_
  refine pw_lconst hO dX8_again_7 (v := (0 : Int64)) (by decide) ?_
  refine pw_lconst hO dX8_again_8 (v := (1 : Int64)) (by decide) ?_
  refine pw_SI (as := [.long (Int32.toInt64 a1), .long (0 : Int64), .long (1 : Int64)]) (st := []) (d := 0) hO [.long (1 : Int64), .long (0 : Int64), .long (Int32.toInt64 a1)] dX8_again_9 sl_X8_61 h (fun r F1 hg n => ct_X8_in hg) ⟨Nat.le_of_ble_eq_true rfl, Nat.le_of_ble_eq_true rfl⟩ ⟨Nat.zero_le _, Nat.zero_le _⟩ (Nat.le_of_ble_eq_true rfl) (fun _ _ => rfl) rfl (fun x3 F2 h => ?_)
  refine pw_if_ne (tgt := 17) hO dX8_again_12 (by decide) h (fun c4 h => ?_) (fun c4 h => ?_)
  · refine pw_aload_n hO dX8_again_17 0 rfl ?_
    refine pw_getR hO dX8_again_18 fl_X8_37 h (fun q5 h => ?_)
    refine pw_iload_n hO dX8_again_21 1 rfl ?_
    refine pw_zald hO dX8_again_22 h (fun x6 h => ?_)
    refine pw_if_ne (tgt := 29) hO dX8_again_23 (by decide) h (fun c7 h => ?_) (fun c7 h => ?_)
    · refine pw_iconst hO dX8_again_29 (v := 0) (by decide) ?_
      refine pw_istore_n hO [(2, .int 0), (0, .ref a0), (1, .int a1)] dX8_again_30 (by decide) rfl ?_
      refine pw_sub (lv1 := [(0, .ref a0), (1, .int a1), (2, .int 0)]) [1, 2, 0] rfl ?_
      exact bl_X8_again_b31 hX gF F2 a0 a1 0 h
    · refine pw_bipush hO dX8_again_26 (v := (-3)) (by decide) ?_
      exact pw_iret hO hX.2 dX8_again_28 h
  · refine pw_iconst hO dX8_again_15 (v := (-1)) (by decide) ?_
    exact pw_iret hO hX.2 dX8_again_16 h
theorem ct_X8_again {n : Nat} {F : Hp} {a0 : Nat} {a1 : Int32} {rx : Int32} {F' : Hp} (h : g_X8_again F a0 a1 = some (rx, F')) : CT yX8_again cX8_again 3 (some FieldType.int) (rmd 1) n F [.ref a0, .int a1] (some (.int rx)) F' :=
  ct_intro (own := RX8) (nm := false) (by decide) rfl (fun h => by cases h) (Nat.le_of_ble_eq_true rfl) (fun X hn hX => bl_X8_again hX F a0 a1 h)
def g_X8_count (F : Hp) (a0 : Nat) (a1 : Int32) : Option (Int32 × Hp) := ((pV F a0 8 0 (.int 0)).bind fun F1 => (if a1 = 0 then ((gI F1 a0 8 2).bind fun x3 => some (x3, F1)) else (if a1 = 1 then ((gR F1 a0 8 7).bind fun q5 => ((aI F1 q5 0 9).bind fun x6 => some (x6, F1))) else (if a1 = 2 then ((gR F1 a0 8 7).bind fun q8 => ((aI F1 q8 0 10).bind fun x9 => some (x9, F1))) else (if a1 = 3 then ((gI F1 a0 8 10).bind fun x11 => some (x11, F1)) else (if a1 = 4 then ((gI F1 a0 8 13).bind fun x13 => some (x13, F1)) else (if a1 = 5 then ((gI F1 a0 8 16).bind fun x15 => some (x15, F1)) else some ((-2), F1))))))))
set_option maxHeartbeats 4000000 in
theorem bl_X8_count {X : Cx} {rx : Int32} {F' : Hp} (hX : Md X cX8_count RX8 2 (rmd 0) (some FieldType.int) false (some (.int rx)) F') (F : Hp) (a0 : Nat) (a1 : Int32) (h : g_X8_count F a0 a1 = some (rx, F')) : PW X 0 0 F 0 [(0, .ref a0), (1, .int a1)] [] := by
  have hO := hX.1
  unfold g_X8_count at h
  refine pw_aload_n hO dX8_count_0 0 rfl ?_
  refine pw_iconst hO dX8_count_1 (v := 0) (by decide) ?_
  refine pw_putI hO dX8_count_2 fp_X8_58 h (fun F1 h => ?_)
  refine pw_iload_n hO dX8_count_5 1 rfl ?_
  refine pw_sw h (fun c2 h => ?_) (fun c2 h => ?_)
  · refine pw_tin (tgt := 44) hO dX8_count_6 c2 (by decide) (by decide) (by rfl) (by decide) ?_
    refine pw_aload_n hO dX8_count_44 0 rfl ?_
    refine pw_getI hO dX8_count_45 fl_X8_101 h (fun x3 h => ?_)
    exact pw_iret hO hX.2 dX8_count_48 h
  refine pw_sw h (fun c4 h => ?_) (fun c4 h => ?_)
  · refine pw_tin (tgt := 49) hO dX8_count_6 c4 (by decide) (by decide) (by rfl) (by decide) ?_
    refine pw_aload_n hO dX8_count_49 0 rfl ?_
    refine pw_getR hO dX8_count_50 fl_X8_19 h (fun q5 h => ?_)
    refine pw_bipush hO dX8_count_53 (v := 9) (by decide) ?_
    refine pw_iald hO dX8_count_55 h (fun x6 h => ?_)
    exact pw_iret hO hX.2 dX8_count_56 h
  refine pw_sw h (fun c7 h => ?_) (fun c7 h => ?_)
  · refine pw_tin (tgt := 57) hO dX8_count_6 c7 (by decide) (by decide) (by rfl) (by decide) ?_
    refine pw_aload_n hO dX8_count_57 0 rfl ?_
    refine pw_getR hO dX8_count_58 fl_X8_19 h (fun q8 h => ?_)
    refine pw_bipush hO dX8_count_61 (v := 10) (by decide) ?_
    refine pw_iald hO dX8_count_63 h (fun x9 h => ?_)
    exact pw_iret hO hX.2 dX8_count_64 h
  refine pw_sw h (fun c10 h => ?_) (fun c10 h => ?_)
  · refine pw_tin (tgt := 65) hO dX8_count_6 c10 (by decide) (by decide) (by rfl) (by decide) ?_
    refine pw_aload_n hO dX8_count_65 0 rfl ?_
    refine pw_getI hO dX8_count_66 fl_X8_130 h (fun x11 h => ?_)
    exact pw_iret hO hX.2 dX8_count_69 h
  refine pw_sw h (fun c12 h => ?_) (fun c12 h => ?_)
  · refine pw_tin (tgt := 70) hO dX8_count_6 c12 (by decide) (by decide) (by rfl) (by decide) ?_
    refine pw_aload_n hO dX8_count_70 0 rfl ?_
    refine pw_getI hO dX8_count_71 fl_X8_136 h (fun x13 h => ?_)
    exact pw_iret hO hX.2 dX8_count_74 h
  refine pw_sw h (fun c14 h => ?_) (fun c14 h => ?_)
  · refine pw_tin (tgt := 75) hO dX8_count_6 c14 (by decide) (by decide) (by rfl) (by decide) ?_
    refine pw_aload_n hO dX8_count_75 0 rfl ?_
    refine pw_getI hO dX8_count_76 fl_X8_186 h (fun x15 h => ?_)
    exact pw_iret hO hX.2 dX8_count_79 h
  refine pw_tout (tgt := 80) hO dX8_count_6 (by have e0 := lv_neT (a := 0) c2 (by decide); have e1 := lv_neT (a := 1) c4 (by decide); have e2 := lv_neT (a := 2) c7 (by decide); have e3 := lv_neT (a := 3) c10 (by decide); have e4 := lv_neT (a := 4) c12 (by decide); have e5 := lv_neT (a := 5) c14 (by decide); omega) (by decide) ?_
  refine pw_bipush hO dX8_count_80 (v := (-2)) (by decide) ?_
  exact pw_iret hO hX.2 dX8_count_82 h
theorem ct_X8_count {n : Nat} {F : Hp} {a0 : Nat} {a1 : Int32} {rx : Int32} {F' : Hp} (h : g_X8_count F a0 a1 = some (rx, F')) : CT yX8_count cX8_count 2 (some FieldType.int) (rmd 0) n F [.ref a0, .int a1] (some (.int rx)) F' :=
  ct_intro (own := RX8) (nm := false) (by decide) rfl (fun h => by cases h) (Nat.le_of_ble_eq_true rfl) (fun X hn hX => bl_X8_count hX F a0 a1 h)
