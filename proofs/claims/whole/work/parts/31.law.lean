def g_L_law_b839 (L : Nat) (xs : Nat → Int32) (rec18 : Hp → Nat → Nat → Int32 → Option Unit) (F : Hp) (v1 : Nat) (v2 : Nat) (v3 : Int32) : Option Unit := rec18 F v1 v2 ((v3 + 5))
set_option maxHeartbeats 4000000 in
theorem bl_L_law_b839 {X : Cx} {L : Nat} {xs : Nat → Int32} (hX : Ok X code RL 4 room_1 ∧ LwX X L xs) (rec18 : Hp → Nat → Nat → Int32 → Option Unit) (hrec18 : ∀ (F : Hp) (v1 : Nat) (v2 : Nat) (v3 : Int32), rec18 F v1 v2 v3 = some () → PW X 121 2192 F 18 [(0, .float 0), (1, .ref v1), (2, .ref v2), (3, .int v3)] []) (F : Hp) (v1 : Nat) (v2 : Nat) (v3 : Int32) (h : g_L_law_b839 L xs rec18 F v1 v2 v3 = some ()) : PW X 121 2192 F 839 [(0, .float 0), (1, .ref v1), (2, .ref v2), (3, .int v3)] [] := by
  have hO := hX.1
  unfold g_L_law_b839 at h
  refine pw_iinc hO [(3, .int (v3 + 5)), (0, .float 0), (1, .ref v1), (2, .ref v2)] dL_law_839 3 rfl rfl (by decide) rfl ?_
  refine pw_goto (tgt := 18) hO dL_law_842 (by decide) ?_
  refine pw_sub (lv1 := [(0, .float 0), (1, .ref v1), (2, .ref v2), (3, .int (v3 + 5))]) [1, 2, 3, 0] rfl ?_
  exact hrec18 F v1 v2 ((v3 + 5)) h
def g_L_law_b616 (L : Nat) (xs : Nat → Int32) (rec18 : Hp → Nat → Nat → Int32 → Option Unit) (F : Hp) (v1 : Nat) (v2 : Nat) (v3 : Int32) (s0 : Int32) (s1 : Nat) (s2 : Int32) (s3 : Int32) : Option Unit := (ckO F s1 8 (bnd2 (g_X8_share F s1 s2 s3) fun x157 F156 => (if s0 = x157 then g_L_law_b839 L xs rec18 F156 v1 v2 v3 else none)))
set_option maxHeartbeats 4000000 in
theorem bl_L_law_b616 {X : Cx} {L : Nat} {xs : Nat → Int32} (hX : Ok X code RL 4 room_1 ∧ LwX X L xs) (rec18 : Hp → Nat → Nat → Int32 → Option Unit) (hrec18 : ∀ (F : Hp) (v1 : Nat) (v2 : Nat) (v3 : Int32), rec18 F v1 v2 v3 = some () → PW X 121 2192 F 18 [(0, .float 0), (1, .ref v1), (2, .ref v2), (3, .int v3)] []) (F : Hp) (v1 : Nat) (v2 : Nat) (v3 : Int32) (s0 : Int32) (s1 : Nat) (s2 : Int32) (s3 : Int32) (h : g_L_law_b616 L xs rec18 F v1 v2 v3 s0 s1 s2 s3 = some ()) : PW X 121 2192 F 616 [(0, .float 0), (1, .ref v1), (2, .ref v2), (3, .int v3)] [.int s3, .int s2, .ref s1, .int s0] := by
  have hO := hX.1
  unfold g_L_law_b616 at h
  refine pw_VI (a := s1) (ci := 8) (as := [.int s2, .int s3]) (st := [.int s0]) (d := 6) hO [.int s3, .int s2, .ref s1, .int s0] dL_law_616 vl_L_92 h (fun r F1 hg n => ct_X8_share hg) ⟨Nat.le_of_ble_eq_true rfl, Nat.le_of_ble_eq_true rfl⟩ ⟨Nat.le_of_ble_eq_true rfl, Nat.le_of_ble_eq_true rfl⟩ (Nat.le_of_ble_eq_true rfl) (fun _ _ => rfl) rfl (fun x157 F156 h => ?_)
  refine pw_icmp_eq (tgt := 839) hO dL_law_619 (by decide) h (fun c158 h => ?_) (fun c158 h => ?_)
  · refine pw_sub (lv1 := [(0, .float 0), (1, .ref v1), (2, .ref v2), (3, .int v3)]) [0, 1, 2, 3] rfl ?_
    exact bl_L_law_b839 hX rec18 hrec18 F156 v1 v2 v3 h
  · refine pw_iconst hO dL_law_622 (v := 0) (by decide) ?_
    cases h
def g_L_law_b594 (L : Nat) (xs : Nat → Int32) (rec18 : Hp → Nat → Nat → Int32 → Option Unit) (F : Hp) (v1 : Nat) (v2 : Nat) (v3 : Int32) (s0 : Nat) (s1 : Int32) (s2 : Int32) : Option Unit := (ckO F s0 7 (bnd2 (g_X7_share F s0 s1 s2) fun x152 F151 => ((aS L xs (v3 + 1)).bind fun x153 => ((aS L xs (v3 + 2)).bind fun x154 => (if x154 = 0 then g_L_law_b616 L xs rec18 F151 v1 v2 v3 x152 v2 x153 0 else g_L_law_b616 L xs rec18 F151 v1 v2 v3 x152 v2 x153 1)))))
set_option maxHeartbeats 4000000 in
theorem bl_L_law_b594 {X : Cx} {L : Nat} {xs : Nat → Int32} (hX : Ok X code RL 4 room_1 ∧ LwX X L xs) (rec18 : Hp → Nat → Nat → Int32 → Option Unit) (hrec18 : ∀ (F : Hp) (v1 : Nat) (v2 : Nat) (v3 : Int32), rec18 F v1 v2 v3 = some () → PW X 121 2192 F 18 [(0, .float 0), (1, .ref v1), (2, .ref v2), (3, .int v3)] []) (F : Hp) (v1 : Nat) (v2 : Nat) (v3 : Int32) (s0 : Nat) (s1 : Int32) (s2 : Int32) (h : g_L_law_b594 L xs rec18 F v1 v2 v3 s0 s1 s2 = some ()) : PW X 121 2192 F 594 [(0, .float 0), (1, .ref v1), (2, .ref v2), (3, .int v3)] [.int s2, .int s1, .ref s0] := by
  have hO := hX.1
  unfold g_L_law_b594 at h
  refine pw_VI (a := s0) (ci := 7) (as := [.int s1, .int s2]) (st := []) (d := 6) hO [.int s2, .int s1, .ref s0] dL_law_594 vl_L_88 h (fun r F1 hg n => ct_X7_share hg) ⟨Nat.le_of_ble_eq_true rfl, Nat.le_of_ble_eq_true rfl⟩ ⟨Nat.le_of_ble_eq_true rfl, Nat.le_of_ble_eq_true rfl⟩ (Nat.le_of_ble_eq_true rfl) (fun _ _ => rfl) rfl (fun x152 F151 h => ?_)
  refine pw_aload_n hO dL_law_597 2 rfl ?_
  refine pw_sload_n hO dL_law_598 0 rfl ?_
  refine pw_iload_n hO dL_law_599 3 rfl ?_
  refine pw_iconst hO dL_law_600 (v := 1) (by decide) ?_
  refine pw_iadd hO dL_law_601 ?_
  refine pw_sld hO hX.2 dL_law_602 h (fun x153 h => ?_)
  refine pw_sload_n hO dL_law_603 0 rfl ?_
  refine pw_iload_n hO dL_law_604 3 rfl ?_
  refine pw_iconst hO dL_law_605 (v := 2) (by decide) ?_
  refine pw_iadd hO dL_law_606 ?_
  refine pw_sld hO hX.2 dL_law_607 h (fun x154 h => ?_)
  refine pw_if_eq (tgt := 615) hO dL_law_608 (by decide) h (fun c155 h => ?_) (fun c155 h => ?_)
  · refine pw_iconst hO dL_law_615 (v := 0) (by decide) ?_
    refine pw_sub (lv1 := [(0, .float 0), (1, .ref v1), (2, .ref v2), (3, .int v3)]) [0, 1, 2, 3] rfl ?_
    exact bl_L_law_b616 hX rec18 hrec18 F151 v1 v2 v3 x152 v2 x153 0 h
  · refine pw_iconst hO dL_law_611 (v := 1) (by decide) ?_
    refine pw_goto (tgt := 616) hO dL_law_612 (by decide) ?_
    refine pw_sub (lv1 := [(0, .float 0), (1, .ref v1), (2, .ref v2), (3, .int v3)]) [0, 1, 2, 3] rfl ?_
    exact bl_L_law_b616 hX rec18 hrec18 F151 v1 v2 v3 x152 v2 x153 1 h
def g_L_law_b685 (L : Nat) (xs : Nat → Int32) (rec18 : Hp → Nat → Nat → Int32 → Option Unit) (F : Hp) (v1 : Nat) (v2 : Nat) (v3 : Int32) (s0 : Int32) (s1 : Nat) (s2 : Int32) (s3 : Int32) (s4 : Int32) (s5 : Int32) : Option Unit := (ckO F s1 8 (bnd2 (g_X8_luck F s1 s2 s3 s4 s5) fun x173 F172 => (if s0 = x173 then g_L_law_b839 L xs rec18 F172 v1 v2 v3 else none)))
set_option maxHeartbeats 4000000 in
theorem bl_L_law_b685 {X : Cx} {L : Nat} {xs : Nat → Int32} (hX : Ok X code RL 4 room_1 ∧ LwX X L xs) (rec18 : Hp → Nat → Nat → Int32 → Option Unit) (hrec18 : ∀ (F : Hp) (v1 : Nat) (v2 : Nat) (v3 : Int32), rec18 F v1 v2 v3 = some () → PW X 121 2192 F 18 [(0, .float 0), (1, .ref v1), (2, .ref v2), (3, .int v3)] []) (F : Hp) (v1 : Nat) (v2 : Nat) (v3 : Int32) (s0 : Int32) (s1 : Nat) (s2 : Int32) (s3 : Int32) (s4 : Int32) (s5 : Int32) (h : g_L_law_b685 L xs rec18 F v1 v2 v3 s0 s1 s2 s3 s4 s5 = some ()) : PW X 121 2192 F 685 [(0, .float 0), (1, .ref v1), (2, .ref v2), (3, .int v3)] [.int s5, .int s4, .int s3, .int s2, .ref s1, .int s0] := by
  have hO := hX.1
  unfold g_L_law_b685 at h
  refine pw_VI (a := s1) (ci := 8) (as := [.int s2, .int s3, .int s4, .int s5]) (st := [.int s0]) (d := 6) hO [.int s5, .int s4, .int s3, .int s2, .ref s1, .int s0] dL_law_685 vl_L_97 h (fun r F1 hg n => ct_X8_luck hg) ⟨Nat.le_of_ble_eq_true rfl, Nat.le_of_ble_eq_true rfl⟩ ⟨Nat.le_of_ble_eq_true rfl, Nat.le_of_ble_eq_true rfl⟩ (Nat.le_of_ble_eq_true rfl) (fun _ _ => rfl) rfl (fun x173 F172 h => ?_)
  refine pw_icmp_eq (tgt := 839) hO dL_law_688 (by decide) h (fun c174 h => ?_) (fun c174 h => ?_)
  · refine pw_sub (lv1 := [(0, .float 0), (1, .ref v1), (2, .ref v2), (3, .int v3)]) [0, 1, 2, 3] rfl ?_
    exact bl_L_law_b839 hX rec18 hrec18 F172 v1 v2 v3 h
  · refine pw_iconst hO dL_law_691 (v := 0) (by decide) ?_
    cases h
def g_L_law_b653 (L : Nat) (xs : Nat → Int32) (rec18 : Hp → Nat → Nat → Int32 → Option Unit) (F : Hp) (v1 : Nat) (v2 : Nat) (v3 : Int32) (s0 : Nat) (s1 : Int32) (s2 : Int32) (s3 : Int32) (s4 : Int32) : Option Unit := (ckO F s0 7 (bnd2 (g_X7_luck F s0 s1 s2 s3 s4) fun x166 F165 => ((aS L xs (v3 + 1)).bind fun x167 => ((aS L xs (v3 + 2)).bind fun x168 => ((aS L xs (v3 + 3)).bind fun x169 => ((aS L xs (v3 + 4)).bind fun x170 => (if x170 = 0 then g_L_law_b685 L xs rec18 F165 v1 v2 v3 x166 v2 x167 x168 x169 0 else g_L_law_b685 L xs rec18 F165 v1 v2 v3 x166 v2 x167 x168 x169 1)))))))
set_option maxHeartbeats 4000000 in
theorem bl_L_law_b653 {X : Cx} {L : Nat} {xs : Nat → Int32} (hX : Ok X code RL 4 room_1 ∧ LwX X L xs) (rec18 : Hp → Nat → Nat → Int32 → Option Unit) (hrec18 : ∀ (F : Hp) (v1 : Nat) (v2 : Nat) (v3 : Int32), rec18 F v1 v2 v3 = some () → PW X 121 2192 F 18 [(0, .float 0), (1, .ref v1), (2, .ref v2), (3, .int v3)] []) (F : Hp) (v1 : Nat) (v2 : Nat) (v3 : Int32) (s0 : Nat) (s1 : Int32) (s2 : Int32) (s3 : Int32) (s4 : Int32) (h : g_L_law_b653 L xs rec18 F v1 v2 v3 s0 s1 s2 s3 s4 = some ()) : PW X 121 2192 F 653 [(0, .float 0), (1, .ref v1), (2, .ref v2), (3, .int v3)] [.int s4, .int s3, .int s2, .int s1, .ref s0] := by
  have hO := hX.1
  unfold g_L_law_b653 at h
  refine pw_VI (a := s0) (ci := 7) (as := [.int s1, .int s2, .int s3, .int s4]) (st := []) (d := 6) hO [.int s4, .int s3, .int s2, .int s1, .ref s0] dL_law_653 vl_L_93 h (fun r F1 hg n => ct_X7_luck hg) ⟨Nat.le_of_ble_eq_true rfl, Nat.le_of_ble_eq_true rfl⟩ ⟨Nat.le_of_ble_eq_true rfl, Nat.le_of_ble_eq_true rfl⟩ (Nat.le_of_ble_eq_true rfl) (fun _ _ => rfl) rfl (fun x166 F165 h => ?_)
  refine pw_aload_n hO dL_law_656 2 rfl ?_
  refine pw_sload_n hO dL_law_657 0 rfl ?_
  refine pw_iload_n hO dL_law_658 3 rfl ?_
  refine pw_iconst hO dL_law_659 (v := 1) (by decide) ?_
  refine pw_iadd hO dL_law_660 ?_
  refine pw_sld hO hX.2 dL_law_661 h (fun x167 h => ?_)
  refine pw_sload_n hO dL_law_662 0 rfl ?_
  refine pw_iload_n hO dL_law_663 3 rfl ?_
  refine pw_iconst hO dL_law_664 (v := 2) (by decide) ?_
  refine pw_iadd hO dL_law_665 ?_
  refine pw_sld hO hX.2 dL_law_666 h (fun x168 h => ?_)
  refine pw_sload_n hO dL_law_667 0 rfl ?_
  refine pw_iload_n hO dL_law_668 3 rfl ?_
  refine pw_iconst hO dL_law_669 (v := 3) (by decide) ?_
  refine pw_iadd hO dL_law_670 ?_
  refine pw_sld hO hX.2 dL_law_671 h (fun x169 h => ?_)
  refine pw_sload_n hO dL_law_672 0 rfl ?_
  refine pw_iload_n hO dL_law_673 3 rfl ?_
  refine pw_iconst hO dL_law_674 (v := 4) (by decide) ?_
  refine pw_iadd hO dL_law_675 ?_
  refine pw_sld hO hX.2 dL_law_676 h (fun x170 h => ?_)
  refine pw_if_eq (tgt := 684) hO dL_law_677 (by decide) h (fun c171 h => ?_) (fun c171 h => ?_)
  · refine pw_iconst hO dL_law_684 (v := 0) (by decide) ?_
    refine pw_sub (lv1 := [(0, .float 0), (1, .ref v1), (2, .ref v2), (3, .int v3)]) [0, 1, 2, 3] rfl ?_
    exact bl_L_law_b685 hX rec18 hrec18 F165 v1 v2 v3 x166 v2 x167 x168 x169 0 h
  · refine pw_iconst hO dL_law_680 (v := 1) (by decide) ?_
    refine pw_goto (tgt := 685) hO dL_law_681 (by decide) ?_
    refine pw_sub (lv1 := [(0, .float 0), (1, .ref v1), (2, .ref v2), (3, .int v3)]) [0, 1, 2, 3] rfl ?_
    exact bl_L_law_b685 hX rec18 hrec18 F165 v1 v2 v3 x166 v2 x167 x168 x169 1 h
def g_L_law_b18 (L : Nat) (xs : Nat → Int32) : Nat → Hp → Nat → Nat → Int32 → Option Unit
  | 0, _, _, _, _ => none
  | n + 1, F, v1, v2, v3 => (if ((Int32.ofNat L) - 5) < v3 then some () else ((aS L xs v3).bind fun x6 => (if (x6 &&& 31) = 0 then ((aS L xs (v3 + 1)).bind fun x8 => (ckO F v1 7 (bnd2 (g_X7_write F v1 x8) fun x10 F9 => ((aS L xs (v3 + 1)).bind fun x11 => (ckO F9 v2 8 (bnd2 (g_X8_write F9 v2 x11) fun x13 F12 => (if x10 = x13 then g_L_law_b839 L xs (g_L_law_b18 L xs n) F12 v1 v2 v3 else none))))))) else (if (x6 &&& 31) = 1 then (ckO F v1 7 (bnd2 (g_X7_wipe F v1) fun x17 F16 => (ckO F16 v2 8 (bnd2 (g_X8_wipe F16 v2) fun x19 F18 => (if x17 = x19 then g_L_law_b839 L xs (g_L_law_b18 L xs n) F18 v1 v2 v3 else none))))) else (if (x6 &&& 31) = 2 then (ckO F v1 7 (bnd2 (g_X7_fault F v1) fun x23 F22 => (ckO F22 v2 8 (bnd2 (g_X8_fault F22 v2) fun x25 F24 => (if x23 = x25 then g_L_law_b839 L xs (g_L_law_b18 L xs n) F24 v1 v2 v3 else none))))) else (if (x6 &&& 31) = 3 then (ckO F v1 7 (bnd2 (g_X7_link F v1) fun x29 F28 => (ckO F28 v2 8 (bnd2 (g_X8_link F28 v2) fun x31 F30 => (if x29 = x31 then g_L_law_b839 L xs (g_L_law_b18 L xs n) F30 v1 v2 v3 else none))))) else (if (x6 &&& 31) = 4 then ((aS L xs (v3 + 1)).bind fun x34 => (ckO F v1 7 (bnd2 (g_X7_ask F v1 x34) fun x36 F35 => ((aS L xs (v3 + 1)).bind fun x37 => (ckO F35 v2 8 (bnd2 (g_X8_ask F35 v2 x37) fun x39 F38 => (if x36 = x39 then g_L_law_b839 L xs (g_L_law_b18 L xs n) F38 v1 v2 v3 else none))))))) else (if (x6 &&& 31) = 5 then ((aS L xs (v3 + 1)).bind fun x42 => ((aS L xs (v3 + 2)).bind fun x43 => (ckO F v1 7 (bnd2 (g_X7_end F v1 x42 x43) fun x45 F44 => ((aS L xs (v3 + 1)).bind fun x46 => ((aS L xs (v3 + 2)).bind fun x47 => (ckO F44 v2 8 (bnd2 (g_X8_end F44 v2 x46 x47) fun x49 F48 => (if x45 = x49 then g_L_law_b839 L xs (g_L_law_b18 L xs n) F48 v1 v2 v3 else none))))))))) else (if (x6 &&& 31) = 6 then ((aS L xs (v3 + 1)).bind fun x52 => ((aS L xs (v3 + 2)).bind fun x53 => (ckO F v1 7 (bnd2 (g_X7_held F v1 x52 x53) fun x55 F54 => ((aS L xs (v3 + 1)).bind fun x56 => ((aS L xs (v3 + 2)).bind fun x57 => (ckO F54 v2 8 (bnd2 (g_X8_held F54 v2 x56 x57) fun x59 F58 => (if x55 = x59 then g_L_law_b839 L xs (g_L_law_b18 L xs n) F58 v1 v2 v3 else none))))))))) else (if (x6 &&& 31) = 7 then ((aS L xs (v3 + 1)).bind fun x62 => (ckO F v1 7 (bnd2 (g_X7_come F v1 x62) fun x64 F63 => ((aS L xs (v3 + 1)).bind fun x65 => (ckO F63 v2 8 (bnd2 (g_X8_come F63 v2 x65) fun x67 F66 => (if x64 = x67 then g_L_law_b839 L xs (g_L_law_b18 L xs n) F66 v1 v2 v3 else none))))))) else (if (x6 &&& 31) = 8 then ((aS L xs (v3 + 1)).bind fun x70 => (ckO F v1 7 (bnd2 (g_X7_pass F v1 x70) fun x72 F71 => ((aS L xs (v3 + 1)).bind fun x73 => (ckO F71 v2 8 (bnd2 (g_X8_pass F71 v2 x73) fun x75 F74 => (if x72 = x75 then g_L_law_b839 L xs (g_L_law_b18 L xs n) F74 v1 v2 v3 else none))))))) else (if (x6 &&& 31) = 9 then ((aS L xs (v3 + 1)).bind fun x78 => ((aS L xs (v3 + 2)).bind fun x79 => ((aS L xs (v3 + 3)).bind fun x80 => (ckO F v1 7 (bnd2 (g_X7_tell F v1 x78 x79 x80) fun x82 F81 => ((aS L xs (v3 + 1)).bind fun x83 => ((aS L xs (v3 + 2)).bind fun x84 => ((aS L xs (v3 + 3)).bind fun x85 => (ckO F81 v2 8 (bnd2 (g_X8_tell F81 v2 x83 x84 x85) fun x87 F86 => (if x82 = x87 then g_L_law_b839 L xs (g_L_law_b18 L xs n) F86 v1 v2 v3 else none))))))))))) else (if (x6 &&& 31) = 10 then (ckO F v1 7 (bnd2 (g_X7_undo F v1) fun x91 F90 => (ckO F90 v2 8 (bnd2 (g_X8_undo F90 v2) fun x93 F92 => (if x91 = x93 then g_L_law_b839 L xs (g_L_law_b18 L xs n) F92 v1 v2 v3 else none))))) else (if (x6 &&& 31) = 11 then ((aS L xs (v3 + 1)).bind fun x96 => ((aS L xs (v3 + 2)).bind fun x97 => (ckO F v1 7 (bnd2 (g_X7_ahead F v1 x96 x97) fun x99 F98 => ((aS L xs (v3 + 1)).bind fun x100 => ((aS L xs (v3 + 2)).bind fun x101 => (ckO F98 v2 8 (bnd2 (g_X8_ahead F98 v2 x100 x101) fun x103 F102 => (if x99 = x103 then g_L_law_b839 L xs (g_L_law_b18 L xs n) F102 v1 v2 v3 else none))))))))) else (if (x6 &&& 31) = 12 then ((aS L xs (v3 + 1)).bind fun x106 => (ckO F v1 7 (bnd2 (g_X7_play F v1 x106) fun x108 F107 => ((aS L xs (v3 + 1)).bind fun x109 => (ckO F107 v2 8 (bnd2 (g_X8_play F107 v2 x109) fun x111 F110 => (if x108 = x111 then g_L_law_b839 L xs (g_L_law_b18 L xs n) F110 v1 v2 v3 else none))))))) else (if (x6 &&& 31) = 13 then ((aS L xs (v3 + 1)).bind fun x114 => ((aS L xs (v3 + 2)).bind fun x115 => ((aS L xs (v3 + 3)).bind fun x116 => (ckO F v1 7 (bnd2 (g_X7_judge F v1 x114 ((jlshl (Int32.toInt64 x115) 32) ||| ((Int32.toInt64 x116) &&& (4294967295 : Int64)))) fun x118 F117 => ((aS L xs (v3 + 1)).bind fun x119 => ((aS L xs (v3 + 2)).bind fun x120 => ((aS L xs (v3 + 3)).bind fun x121 => (ckO F117 v2 8 (bnd2 (g_X8_judge F117 v2 x119 ((jlshl (Int32.toInt64 x120) 32) ||| ((Int32.toInt64 x121) &&& (4294967295 : Int64)))) fun x123 F122 => (if x118 = x123 then g_L_law_b839 L xs (g_L_law_b18 L xs n) F122 v1 v2 v3 else none))))))))))) else (if (x6 &&& 31) = 14 then ((aS L xs (v3 + 1)).bind fun x126 => ((aS L xs (v3 + 2)).bind fun x127 => (ckO F v1 7 (bnd2 (g_X7_see F v1 x126 x127) fun x129 F128 => ((aS L xs (v3 + 1)).bind fun x130 => ((aS L xs (v3 + 2)).bind fun x131 => (ckO F128 v2 8 (bnd2 (g_X8_see F128 v2 x130 x131) fun x133 F132 => (if x129 = x133 then g_L_law_b839 L xs (g_L_law_b18 L xs n) F132 v1 v2 v3 else none))))))))) else (if (x6 &&& 31) = 15 then (ckO F v1 7 (bnd2 (g_X7_unsee F v1) fun x137 F136 => (ckO F136 v2 8 (bnd2 (g_X8_unsee F136 v2) fun x139 F138 => (if x137 = x139 then g_L_law_b839 L xs (g_L_law_b18 L xs n) F138 v1 v2 v3 else none))))) else (if (x6 &&& 31) = 16 then (ckO F v1 7 (bnd2 (g_X7_which F v1) fun x143 F142 => (ckO F142 v2 8 (bnd2 (g_X8_which F142 v2) fun x145 F144 => (if x143 = x145 then g_L_law_b839 L xs (g_L_law_b18 L xs n) F144 v1 v2 v3 else none))))) else (if (x6 &&& 31) = 17 then ((aS L xs (v3 + 1)).bind fun x148 => ((aS L xs (v3 + 2)).bind fun x149 => (if x149 = 0 then g_L_law_b594 L xs (g_L_law_b18 L xs n) F v1 v2 v3 v1 x148 0 else g_L_law_b594 L xs (g_L_law_b18 L xs n) F v1 v2 v3 v1 x148 1))) else (if (x6 &&& 31) = 18 then ((aS L xs (v3 + 1)).bind fun x160 => ((aS L xs (v3 + 2)).bind fun x161 => ((aS L xs (v3 + 3)).bind fun x162 => ((aS L xs (v3 + 4)).bind fun x163 => (if x163 = 0 then g_L_law_b653 L xs (g_L_law_b18 L xs n) F v1 v2 v3 v1 x160 x161 x162 0 else g_L_law_b653 L xs (g_L_law_b18 L xs n) F v1 v2 v3 v1 x160 x161 x162 1))))) else (if (x6 &&& 31) = 19 then ((aS L xs (v3 + 1)).bind fun x176 => ((aS L xs (v3 + 2)).bind fun x177 => (ckO F v1 7 (bnd2 (g_X7_seed F v1 ((jlshl (Int32.toInt64 x176) 32) ||| ((Int32.toInt64 x177) &&& (4294967295 : Int64)))) fun x179 F178 => ((aS L xs (v3 + 1)).bind fun x180 => ((aS L xs (v3 + 2)).bind fun x181 => (ckO F178 v2 8 (bnd2 (g_X8_seed F178 v2 ((jlshl (Int32.toInt64 x180) 32) ||| ((Int32.toInt64 x181) &&& (4294967295 : Int64)))) fun x183 F182 => (if (lg_cmp x179 x183) = 0 then g_L_law_b839 L xs (g_L_law_b18 L xs n) F182 v1 v2 v3 else none))))))))) else (if (x6 &&& 31) = 20 then ((aS L xs (v3 + 1)).bind fun x186 => (ckO F v1 7 (bnd2 (g_X7_drawn F v1 x186) fun x188 F187 => ((aS L xs (v3 + 1)).bind fun x189 => (ckO F187 v2 8 (bnd2 (g_X8_drawn F187 v2 x189) fun x191 F190 => (if x188 = x191 then g_L_law_b839 L xs (g_L_law_b18 L xs n) F190 v1 v2 v3 else none))))))) else (if (x6 &&& 31) = 21 then ((aS L xs (v3 + 1)).bind fun x194 => (ckO F v1 7 (bnd2 (g_X7_keep F v1 x194) fun x196 F195 => ((aS L xs (v3 + 1)).bind fun x197 => (ckO F195 v2 8 (bnd2 (g_X8_keep F195 v2 x197) fun x199 F198 => (if x196 = x199 then g_L_law_b839 L xs (g_L_law_b18 L xs n) F198 v1 v2 v3 else none))))))) else (if (x6 &&& 31) = 22 then ((aS L xs (v3 + 1)).bind fun x202 => (ckO F v1 7 (bnd2 (g_X7_again F v1 x202) fun x204 F203 => ((aS L xs (v3 + 1)).bind fun x205 => (ckO F203 v2 8 (bnd2 (g_X8_again F203 v2 x205) fun x207 F206 => (if x204 = x207 then g_L_law_b839 L xs (g_L_law_b18 L xs n) F206 v1 v2 v3 else none))))))) else (if (x6 &&& 31) = 23 then ((aS L xs (v3 + 1)).bind fun x210 => (ckO F v1 7 (bnd2 (g_X7_count F v1 x210) fun x212 F211 => ((aS L xs (v3 + 1)).bind fun x213 => (ckO F211 v2 8 (bnd2 (g_X8_count F211 v2 x213) fun x215 F214 => (if x212 = x215 then g_L_law_b839 L xs (g_L_law_b18 L xs n) F214 v1 v2 v3 else none))))))) else g_L_law_b839 L xs (g_L_law_b18 L xs n) F v1 v2 v3))))))))))))))))))))))))))
set_option maxHeartbeats 4000000 in
theorem bl_L_law_b18 {X : Cx} {L : Nat} {xs : Nat → Int32} (hX : Ok X code RL 4 room_1 ∧ LwX X L xs) : ∀ (n : Nat) (F : Hp) (v1 : Nat) (v2 : Nat) (v3 : Int32), g_L_law_b18 L xs n F v1 v2 v3 = some () → PW X 121 2192 F 18 [(0, .float 0), (1, .ref v1), (2, .ref v2), (3, .int v3)] [] := by
  have hO := hX.1
  intro n
  induction n with
  | zero => intro F v1 v2 v3 h; rw [g_L_law_b18] at h; cases h
  | succ n ih =>
    intro F v1 v2 v3 h
    rw [g_L_law_b18] at h
    refine pw_iload_n hO dL_law_18 3 rfl ?_
    refine pw_sload_n hO dL_law_19 0 rfl ?_
    refine pw_slen hO hX.2 dL_law_20 ?_
    refine pw_iconst hO dL_law_21 (v := 5) (by decide) ?_
    refine pw_isub hO dL_law_22 ?_
    refine pw_icmp_gt (tgt := 845) hO dL_law_23 (by decide) h (fun c5 h => ?_) (fun c5 h => ?_)
    · refine pw_iconst hO dL_law_845 (v := 1) (by decide) ?_
      exact pw_lawret hO hX.2 dL_law_846
    · refine pw_sload_n hO dL_law_26 0 rfl ?_
      refine pw_iload_n hO dL_law_27 3 rfl ?_
      refine pw_sld hO hX.2 dL_law_28 h (fun x6 h => ?_)
      refine pw_bipush hO dL_law_29 (v := 31) (by decide) ?_
      refine pw_iand hO dL_law_31 ?_
      refine pw_sw h (fun c7 h => ?_) (fun c7 h => ?_)
      · refine pw_tin (tgt := 144) hO dL_law_32 c7 (by decide) (by decide) (by rfl) (by decide) ?_
        refine pw_aload_n hO dL_law_144 1 rfl ?_
        refine pw_sload_n hO dL_law_145 0 rfl ?_
        refine pw_iload_n hO dL_law_146 3 rfl ?_
        refine pw_iconst hO dL_law_147 (v := 1) (by decide) ?_
        refine pw_iadd hO dL_law_148 ?_
        refine pw_sld hO hX.2 dL_law_149 h (fun x8 h => ?_)
        refine pw_VI (a := v1) (ci := 7) (as := [.int x8]) (st := []) (d := 1) hO [.int x8, .ref v1] dL_law_150 vl_L_13 h (fun r F1 hg n => ct_X7_write hg) ⟨Nat.le_of_ble_eq_true rfl, Nat.le_of_ble_eq_true rfl⟩ ⟨Nat.le_of_ble_eq_true rfl, Nat.le_of_ble_eq_true rfl⟩ (Nat.le_of_ble_eq_true rfl) (fun _ _ => rfl) rfl (fun x10 F9 h => ?_)
        refine pw_aload_n hO dL_law_153 2 rfl ?_
        refine pw_sload_n hO dL_law_154 0 rfl ?_
        refine pw_iload_n hO dL_law_155 3 rfl ?_
        refine pw_iconst hO dL_law_156 (v := 1) (by decide) ?_
        refine pw_iadd hO dL_law_157 ?_
        refine pw_sld hO hX.2 dL_law_158 h (fun x11 h => ?_)
        refine pw_VI (a := v2) (ci := 8) (as := [.int x11]) (st := [.int x10]) (d := 1) hO [.int x11, .ref v2, .int x10] dL_law_159 vl_L_17 h (fun r F1 hg n => ct_X8_write hg) ⟨Nat.le_of_ble_eq_true rfl, Nat.le_of_ble_eq_true rfl⟩ ⟨Nat.le_of_ble_eq_true rfl, Nat.le_of_ble_eq_true rfl⟩ (Nat.le_of_ble_eq_true rfl) (fun _ _ => rfl) rfl (fun x13 F12 h => ?_)
        refine pw_icmp_eq (tgt := 839) hO dL_law_162 (by decide) h (fun c14 h => ?_) (fun c14 h => ?_)
        · refine pw_sub (lv1 := [(0, .float 0), (1, .ref v1), (2, .ref v2), (3, .int v3)]) [0, 1, 2, 3] rfl ?_
          exact bl_L_law_b839 hX (g_L_law_b18 L xs n) ih F12 v1 v2 v3 h
        · refine pw_iconst hO dL_law_165 (v := 0) (by decide) ?_
          cases h
      refine pw_sw h (fun c15 h => ?_) (fun c15 h => ?_)
      · refine pw_tin (tgt := 167) hO dL_law_32 c15 (by decide) (by decide) (by rfl) (by decide) ?_
        refine pw_aload_n hO dL_law_167 1 rfl ?_
        refine pw_VI (a := v1) (ci := 7) (as := []) (st := []) (d := 0) hO [.ref v1] dL_law_168 vl_L_18 h (fun r F1 hg n => ct_X7_wipe hg) ⟨Nat.le_of_ble_eq_true rfl, Nat.le_of_ble_eq_true rfl⟩ ⟨Nat.le_of_ble_eq_true rfl, Nat.le_of_ble_eq_true rfl⟩ (Nat.le_of_ble_eq_true rfl) (fun _ _ => rfl) rfl (fun x17 F16 h => ?_)
        refine pw_aload_n hO dL_law_171 2 rfl ?_
        refine pw_VI (a := v2) (ci := 8) (as := []) (st := [.int x17]) (d := 0) hO [.ref v2, .int x17] dL_law_172 vl_L_22 h (fun r F1 hg n => ct_X8_wipe hg) ⟨Nat.le_of_ble_eq_true rfl, Nat.le_of_ble_eq_true rfl⟩ ⟨Nat.le_of_ble_eq_true rfl, Nat.le_of_ble_eq_true rfl⟩ (Nat.le_of_ble_eq_true rfl) (fun _ _ => rfl) rfl (fun x19 F18 h => ?_)
        refine pw_icmp_eq (tgt := 839) hO dL_law_175 (by decide) h (fun c20 h => ?_) (fun c20 h => ?_)
        · refine pw_sub (lv1 := [(0, .float 0), (1, .ref v1), (2, .ref v2), (3, .int v3)]) [0, 1, 2, 3] rfl ?_
          exact bl_L_law_b839 hX (g_L_law_b18 L xs n) ih F18 v1 v2 v3 h
        · refine pw_iconst hO dL_law_178 (v := 0) (by decide) ?_
          cases h
      refine pw_sw h (fun c21 h => ?_) (fun c21 h => ?_)
      · refine pw_tin (tgt := 180) hO dL_law_32 c21 (by decide) (by decide) (by rfl) (by decide) ?_
        refine pw_aload_n hO dL_law_180 1 rfl ?_
        refine pw_VI (a := v1) (ci := 7) (as := []) (st := []) (d := 3) hO [.ref v1] dL_law_181 vl_L_23 h (fun r F1 hg n => ct_X7_fault hg) ⟨Nat.le_of_ble_eq_true rfl, Nat.le_of_ble_eq_true rfl⟩ ⟨Nat.le_of_ble_eq_true rfl, Nat.le_of_ble_eq_true rfl⟩ (Nat.le_of_ble_eq_true rfl) (fun _ _ => rfl) rfl (fun x23 F22 h => ?_)
        refine pw_aload_n hO dL_law_184 2 rfl ?_
        refine pw_VI (a := v2) (ci := 8) (as := []) (st := [.int x23]) (d := 3) hO [.ref v2, .int x23] dL_law_185 vl_L_26 h (fun r F1 hg n => ct_X8_fault hg) ⟨Nat.le_of_ble_eq_true rfl, Nat.le_of_ble_eq_true rfl⟩ ⟨Nat.le_of_ble_eq_true rfl, Nat.le_of_ble_eq_true rfl⟩ (Nat.le_of_ble_eq_true rfl) (fun _ _ => rfl) rfl (fun x25 F24 h => ?_)
        refine pw_icmp_eq (tgt := 839) hO dL_law_188 (by decide) h (fun c26 h => ?_) (fun c26 h => ?_)
        · refine pw_sub (lv1 := [(0, .float 0), (1, .ref v1), (2, .ref v2), (3, .int v3)]) [0, 1, 2, 3] rfl ?_
          exact bl_L_law_b839 hX (g_L_law_b18 L xs n) ih F24 v1 v2 v3 h
        · refine pw_iconst hO dL_law_191 (v := 0) (by decide) ?_
          cases h
      refine pw_sw h (fun c27 h => ?_) (fun c27 h => ?_)
      · refine pw_tin (tgt := 193) hO dL_law_32 c27 (by decide) (by decide) (by rfl) (by decide) ?_
        refine pw_aload_n hO dL_law_193 1 rfl ?_
        refine pw_VI (a := v1) (ci := 7) (as := []) (st := []) (d := 5) hO [.ref v1] dL_law_194 vl_L_27 h (fun r F1 hg n => ct_X7_link hg) ⟨Nat.le_of_ble_eq_true rfl, Nat.le_of_ble_eq_true rfl⟩ ⟨Nat.le_of_ble_eq_true rfl, Nat.le_of_ble_eq_true rfl⟩ (Nat.le_of_ble_eq_true rfl) (fun _ _ => rfl) rfl (fun x29 F28 h => ?_)
        refine pw_aload_n hO dL_law_197 2 rfl ?_
        refine pw_VI (a := v2) (ci := 8) (as := []) (st := [.int x29]) (d := 4) hO [.ref v2, .int x29] dL_law_198 vl_L_30 h (fun r F1 hg n => ct_X8_link hg) ⟨Nat.le_of_ble_eq_true rfl, Nat.le_of_ble_eq_true rfl⟩ ⟨Nat.le_of_ble_eq_true rfl, Nat.le_of_ble_eq_true rfl⟩ (Nat.le_of_ble_eq_true rfl) (fun _ _ => rfl) rfl (fun x31 F30 h => ?_)
        refine pw_icmp_eq (tgt := 839) hO dL_law_201 (by decide) h (fun c32 h => ?_) (fun c32 h => ?_)
        · refine pw_sub (lv1 := [(0, .float 0), (1, .ref v1), (2, .ref v2), (3, .int v3)]) [0, 1, 2, 3] rfl ?_
          exact bl_L_law_b839 hX (g_L_law_b18 L xs n) ih F30 v1 v2 v3 h
        · refine pw_iconst hO dL_law_204 (v := 0) (by decide) ?_
          cases h
      refine pw_sw h (fun c33 h => ?_) (fun c33 h => ?_)
      · refine pw_tin (tgt := 206) hO dL_law_32 c33 (by decide) (by decide) (by rfl) (by decide) ?_
        refine pw_aload_n hO dL_law_206 1 rfl ?_
        refine pw_sload_n hO dL_law_207 0 rfl ?_
        refine pw_iload_n hO dL_law_208 3 rfl ?_
        refine pw_iconst hO dL_law_209 (v := 1) (by decide) ?_
        refine pw_iadd hO dL_law_210 ?_
        refine pw_sld hO hX.2 dL_law_211 h (fun x34 h => ?_)
        refine pw_VI (a := v1) (ci := 7) (as := [.int x34]) (st := []) (d := 4) hO [.int x34, .ref v1] dL_law_212 vl_L_31 h (fun r F1 hg n => ct_X7_ask hg) ⟨Nat.le_of_ble_eq_true rfl, Nat.le_of_ble_eq_true rfl⟩ ⟨Nat.le_of_ble_eq_true rfl, Nat.le_of_ble_eq_true rfl⟩ (Nat.le_of_ble_eq_true rfl) (fun _ _ => rfl) rfl (fun x36 F35 h => ?_)
        refine pw_aload_n hO dL_law_215 2 rfl ?_
        refine pw_sload_n hO dL_law_216 0 rfl ?_
        refine pw_iload_n hO dL_law_217 3 rfl ?_
        refine pw_iconst hO dL_law_218 (v := 1) (by decide) ?_
        refine pw_iadd hO dL_law_219 ?_
        refine pw_sld hO hX.2 dL_law_220 h (fun x37 h => ?_)
        refine pw_VI (a := v2) (ci := 8) (as := [.int x37]) (st := [.int x36]) (d := 4) hO [.int x37, .ref v2, .int x36] dL_law_221 vl_L_34 h (fun r F1 hg n => ct_X8_ask hg) ⟨Nat.le_of_ble_eq_true rfl, Nat.le_of_ble_eq_true rfl⟩ ⟨Nat.le_of_ble_eq_true rfl, Nat.le_of_ble_eq_true rfl⟩ (Nat.le_of_ble_eq_true rfl) (fun _ _ => rfl) rfl (fun x39 F38 h => ?_)
        refine pw_icmp_eq (tgt := 839) hO dL_law_224 (by decide) h (fun c40 h => ?_) (fun c40 h => ?_)
        · refine pw_sub (lv1 := [(0, .float 0), (1, .ref v1), (2, .ref v2), (3, .int v3)]) [0, 1, 2, 3] rfl ?_
          exact bl_L_law_b839 hX (g_L_law_b18 L xs n) ih F38 v1 v2 v3 h
        · refine pw_iconst hO dL_law_227 (v := 0) (by decide) ?_
          cases h
      refine pw_sw h (fun c41 h => ?_) (fun c41 h => ?_)
      · refine pw_tin (tgt := 229) hO dL_law_32 c41 (by decide) (by decide) (by rfl) (by decide) ?_
        refine pw_aload_n hO dL_law_229 1 rfl ?_
        refine pw_sload_n hO dL_law_230 0 rfl ?_
        refine pw_iload_n hO dL_law_231 3 rfl ?_
        refine pw_iconst hO dL_law_232 (v := 1) (by decide) ?_
        refine pw_iadd hO dL_law_233 ?_
        refine pw_sld hO hX.2 dL_law_234 h (fun x42 h => ?_)
        refine pw_sload_n hO dL_law_235 0 rfl ?_
        refine pw_iload_n hO dL_law_236 3 rfl ?_
        refine pw_iconst hO dL_law_237 (v := 2) (by decide) ?_
        refine pw_iadd hO dL_law_238 ?_
        refine pw_sld hO hX.2 dL_law_239 h (fun x43 h => ?_)
        refine pw_VI (a := v1) (ci := 7) (as := [.int x42, .int x43]) (st := []) (d := 6) hO [.int x43, .int x42, .ref v1] dL_law_240 vl_L_35 h (fun r F1 hg n => ct_X7_end hg) ⟨Nat.le_of_ble_eq_true rfl, Nat.le_of_ble_eq_true rfl⟩ ⟨Nat.le_of_ble_eq_true rfl, Nat.le_of_ble_eq_true rfl⟩ (Nat.le_of_ble_eq_true rfl) (fun _ _ => rfl) rfl (fun x45 F44 h => ?_)
        refine pw_aload_n hO dL_law_243 2 rfl ?_
        refine pw_sload_n hO dL_law_244 0 rfl ?_
        refine pw_iload_n hO dL_law_245 3 rfl ?_
        refine pw_iconst hO dL_law_246 (v := 1) (by decide) ?_
        refine pw_iadd hO dL_law_247 ?_
        refine pw_sld hO hX.2 dL_law_248 h (fun x46 h => ?_)
        refine pw_sload_n hO dL_law_249 0 rfl ?_
        refine pw_iload_n hO dL_law_250 3 rfl ?_
        refine pw_iconst hO dL_law_251 (v := 2) (by decide) ?_
        refine pw_iadd hO dL_law_252 ?_
        refine pw_sld hO hX.2 dL_law_253 h (fun x47 h => ?_)
        refine pw_VI (a := v2) (ci := 8) (as := [.int x46, .int x47]) (st := [.int x45]) (d := 7) hO [.int x47, .int x46, .ref v2, .int x45] dL_law_254 vl_L_39 h (fun r F1 hg n => ct_X8_end hg) ⟨Nat.le_of_ble_eq_true rfl, Nat.le_of_ble_eq_true rfl⟩ ⟨Nat.le_of_ble_eq_true rfl, Nat.le_of_ble_eq_true rfl⟩ (Nat.le_of_ble_eq_true rfl) (fun _ _ => rfl) rfl (fun x49 F48 h => ?_)
        refine pw_icmp_eq (tgt := 839) hO dL_law_257 (by decide) h (fun c50 h => ?_) (fun c50 h => ?_)
        · refine pw_sub (lv1 := [(0, .float 0), (1, .ref v1), (2, .ref v2), (3, .int v3)]) [0, 1, 2, 3] rfl ?_
          exact bl_L_law_b839 hX (g_L_law_b18 L xs n) ih F48 v1 v2 v3 h
        · refine pw_iconst hO dL_law_260 (v := 0) (by decide) ?_
          cases h
      refine pw_sw h (fun c51 h => ?_) (fun c51 h => ?_)
      · refine pw_tin (tgt := 262) hO dL_law_32 c51 (by decide) (by decide) (by rfl) (by decide) ?_
        refine pw_aload_n hO dL_law_262 1 rfl ?_
        refine pw_sload_n hO dL_law_263 0 rfl ?_
        refine pw_iload_n hO dL_law_264 3 rfl ?_
        refine pw_iconst hO dL_law_265 (v := 1) (by decide) ?_
        refine pw_iadd hO dL_law_266 ?_
        refine pw_sld hO hX.2 dL_law_267 h (fun x52 h => ?_)
        refine pw_sload_n hO dL_law_268 0 rfl ?_
        refine pw_iload_n hO dL_law_269 3 rfl ?_
        refine pw_iconst hO dL_law_270 (v := 2) (by decide) ?_
        refine pw_iadd hO dL_law_271 ?_
        refine pw_sld hO hX.2 dL_law_272 h (fun x53 h => ?_)
        refine pw_VI (a := v1) (ci := 7) (as := [.int x52, .int x53]) (st := []) (d := 1) hO [.int x53, .int x52, .ref v1] dL_law_273 vl_L_40 h (fun r F1 hg n => ct_X7_held hg) ⟨Nat.le_of_ble_eq_true rfl, Nat.le_of_ble_eq_true rfl⟩ ⟨Nat.le_of_ble_eq_true rfl, Nat.le_of_ble_eq_true rfl⟩ (Nat.le_of_ble_eq_true rfl) (fun _ _ => rfl) rfl (fun x55 F54 h => ?_)
        refine pw_aload_n hO dL_law_276 2 rfl ?_
        refine pw_sload_n hO dL_law_277 0 rfl ?_
        refine pw_iload_n hO dL_law_278 3 rfl ?_
        refine pw_iconst hO dL_law_279 (v := 1) (by decide) ?_
        refine pw_iadd hO dL_law_280 ?_
        refine pw_sld hO hX.2 dL_law_281 h (fun x56 h => ?_)
        refine pw_sload_n hO dL_law_282 0 rfl ?_
        refine pw_iload_n hO dL_law_283 3 rfl ?_
        refine pw_iconst hO dL_law_284 (v := 2) (by decide) ?_
        refine pw_iadd hO dL_law_285 ?_
        refine pw_sld hO hX.2 dL_law_286 h (fun x57 h => ?_)
        refine pw_VI (a := v2) (ci := 8) (as := [.int x56, .int x57]) (st := [.int x55]) (d := 2) hO [.int x57, .int x56, .ref v2, .int x55] dL_law_287 vl_L_43 h (fun r F1 hg n => ct_X8_held hg) ⟨Nat.le_of_ble_eq_true rfl, Nat.le_of_ble_eq_true rfl⟩ ⟨Nat.le_of_ble_eq_true rfl, Nat.le_of_ble_eq_true rfl⟩ (Nat.le_of_ble_eq_true rfl) (fun _ _ => rfl) rfl (fun x59 F58 h => ?_)
        refine pw_icmp_eq (tgt := 839) hO dL_law_290 (by decide) h (fun c60 h => ?_) (fun c60 h => ?_)
        · refine pw_sub (lv1 := [(0, .float 0), (1, .ref v1), (2, .ref v2), (3, .int v3)]) [0, 1, 2, 3] rfl ?_
          exact bl_L_law_b839 hX (g_L_law_b18 L xs n) ih F58 v1 v2 v3 h
        · refine pw_iconst hO dL_law_293 (v := 0) (by decide) ?_
          cases h
      refine pw_sw h (fun c61 h => ?_) (fun c61 h => ?_)
      · refine pw_tin (tgt := 295) hO dL_law_32 c61 (by decide) (by decide) (by rfl) (by decide) ?_
        refine pw_aload_n hO dL_law_295 1 rfl ?_
        refine pw_sload_n hO dL_law_296 0 rfl ?_
        refine pw_iload_n hO dL_law_297 3 rfl ?_
        refine pw_iconst hO dL_law_298 (v := 1) (by decide) ?_
        refine pw_iadd hO dL_law_299 ?_
        refine pw_sld hO hX.2 dL_law_300 h (fun x62 h => ?_)
        refine pw_VI (a := v1) (ci := 7) (as := [.int x62]) (st := []) (d := 3) hO [.int x62, .ref v1] dL_law_301 vl_L_44 h (fun r F1 hg n => ct_X7_come hg) ⟨Nat.le_of_ble_eq_true rfl, Nat.le_of_ble_eq_true rfl⟩ ⟨Nat.le_of_ble_eq_true rfl, Nat.le_of_ble_eq_true rfl⟩ (Nat.le_of_ble_eq_true rfl) (fun _ _ => rfl) rfl (fun x64 F63 h => ?_)
        refine pw_aload_n hO dL_law_304 2 rfl ?_
        refine pw_sload_n hO dL_law_305 0 rfl ?_
        refine pw_iload_n hO dL_law_306 3 rfl ?_
        refine pw_iconst hO dL_law_307 (v := 1) (by decide) ?_
        refine pw_iadd hO dL_law_308 ?_
        refine pw_sld hO hX.2 dL_law_309 h (fun x65 h => ?_)
        refine pw_VI (a := v2) (ci := 8) (as := [.int x65]) (st := [.int x64]) (d := 2) hO [.int x65, .ref v2, .int x64] dL_law_310 vl_L_47 h (fun r F1 hg n => ct_X8_come hg) ⟨Nat.le_of_ble_eq_true rfl, Nat.le_of_ble_eq_true rfl⟩ ⟨Nat.le_of_ble_eq_true rfl, Nat.le_of_ble_eq_true rfl⟩ (Nat.le_of_ble_eq_true rfl) (fun _ _ => rfl) rfl (fun x67 F66 h => ?_)
        refine pw_icmp_eq (tgt := 839) hO dL_law_313 (by decide) h (fun c68 h => ?_) (fun c68 h => ?_)
        · refine pw_sub (lv1 := [(0, .float 0), (1, .ref v1), (2, .ref v2), (3, .int v3)]) [0, 1, 2, 3] rfl ?_
          exact bl_L_law_b839 hX (g_L_law_b18 L xs n) ih F66 v1 v2 v3 h
        · refine pw_iconst hO dL_law_316 (v := 0) (by decide) ?_
          cases h
      refine pw_sw h (fun c69 h => ?_) (fun c69 h => ?_)
      · refine pw_tin (tgt := 318) hO dL_law_32 c69 (by decide) (by decide) (by rfl) (by decide) ?_
        refine pw_aload_n hO dL_law_318 1 rfl ?_
        refine pw_sload_n hO dL_law_319 0 rfl ?_
        refine pw_iload_n hO dL_law_320 3 rfl ?_
        refine pw_iconst hO dL_law_321 (v := 1) (by decide) ?_
        refine pw_iadd hO dL_law_322 ?_
        refine pw_sld hO hX.2 dL_law_323 h (fun x70 h => ?_)
        refine pw_VI (a := v1) (ci := 7) (as := [.int x70]) (st := []) (d := 4) hO [.int x70, .ref v1] dL_law_324 vl_L_48 h (fun r F1 hg n => ct_X7_pass hg) ⟨Nat.le_of_ble_eq_true rfl, Nat.le_of_ble_eq_true rfl⟩ ⟨Nat.le_of_ble_eq_true rfl, Nat.le_of_ble_eq_true rfl⟩ (Nat.le_of_ble_eq_true rfl) (fun _ _ => rfl) rfl (fun x72 F71 h => ?_)
        refine pw_aload_n hO dL_law_327 2 rfl ?_
        refine pw_sload_n hO dL_law_328 0 rfl ?_
        refine pw_iload_n hO dL_law_329 3 rfl ?_
        refine pw_iconst hO dL_law_330 (v := 1) (by decide) ?_
        refine pw_iadd hO dL_law_331 ?_
        refine pw_sld hO hX.2 dL_law_332 h (fun x73 h => ?_)
        refine pw_VI (a := v2) (ci := 8) (as := [.int x73]) (st := [.int x72]) (d := 3) hO [.int x73, .ref v2, .int x72] dL_law_333 vl_L_51 h (fun r F1 hg n => ct_X8_pass hg) ⟨Nat.le_of_ble_eq_true rfl, Nat.le_of_ble_eq_true rfl⟩ ⟨Nat.le_of_ble_eq_true rfl, Nat.le_of_ble_eq_true rfl⟩ (Nat.le_of_ble_eq_true rfl) (fun _ _ => rfl) rfl (fun x75 F74 h => ?_)
        refine pw_icmp_eq (tgt := 839) hO dL_law_336 (by decide) h (fun c76 h => ?_) (fun c76 h => ?_)
        · refine pw_sub (lv1 := [(0, .float 0), (1, .ref v1), (2, .ref v2), (3, .int v3)]) [0, 1, 2, 3] rfl ?_
          exact bl_L_law_b839 hX (g_L_law_b18 L xs n) ih F74 v1 v2 v3 h
        · refine pw_iconst hO dL_law_339 (v := 0) (by decide) ?_
          cases h
      refine pw_sw h (fun c77 h => ?_) (fun c77 h => ?_)
      · refine pw_tin (tgt := 341) hO dL_law_32 c77 (by decide) (by decide) (by rfl) (by decide) ?_
        refine pw_aload_n hO dL_law_341 1 rfl ?_
        refine pw_sload_n hO dL_law_342 0 rfl ?_
        refine pw_iload_n hO dL_law_343 3 rfl ?_
        refine pw_iconst hO dL_law_344 (v := 1) (by decide) ?_
        refine pw_iadd hO dL_law_345 ?_
        refine pw_sld hO hX.2 dL_law_346 h (fun x78 h => ?_)
        refine pw_sload_n hO dL_law_347 0 rfl ?_
        refine pw_iload_n hO dL_law_348 3 rfl ?_
        refine pw_iconst hO dL_law_349 (v := 2) (by decide) ?_
        refine pw_iadd hO dL_law_350 ?_
        refine pw_sld hO hX.2 dL_law_351 h (fun x79 h => ?_)
        refine pw_sload_n hO dL_law_352 0 rfl ?_
        refine pw_iload_n hO dL_law_353 3 rfl ?_
        refine pw_iconst hO dL_law_354 (v := 3) (by decide) ?_
        refine pw_iadd hO dL_law_355 ?_
        refine pw_sld hO hX.2 dL_law_356 h (fun x80 h => ?_)
        refine pw_VI (a := v1) (ci := 7) (as := [.int x78, .int x79, .int x80]) (st := []) (d := 3) hO [.int x80, .int x79, .int x78, .ref v1] dL_law_357 vl_L_52 h (fun r F1 hg n => ct_X7_tell hg) ⟨Nat.le_of_ble_eq_true rfl, Nat.le_of_ble_eq_true rfl⟩ ⟨Nat.le_of_ble_eq_true rfl, Nat.le_of_ble_eq_true rfl⟩ (Nat.le_of_ble_eq_true rfl) (fun _ _ => rfl) rfl (fun x82 F81 h => ?_)
        refine pw_aload_n hO dL_law_360 2 rfl ?_
        refine pw_sload_n hO dL_law_361 0 rfl ?_
        refine pw_iload_n hO dL_law_362 3 rfl ?_
        refine pw_iconst hO dL_law_363 (v := 1) (by decide) ?_
        refine pw_iadd hO dL_law_364 ?_
        refine pw_sld hO hX.2 dL_law_365 h (fun x83 h => ?_)
        refine pw_sload_n hO dL_law_366 0 rfl ?_
        refine pw_iload_n hO dL_law_367 3 rfl ?_
        refine pw_iconst hO dL_law_368 (v := 2) (by decide) ?_
        refine pw_iadd hO dL_law_369 ?_
        refine pw_sld hO hX.2 dL_law_370 h (fun x84 h => ?_)
        refine pw_sload_n hO dL_law_371 0 rfl ?_
        refine pw_iload_n hO dL_law_372 3 rfl ?_
        refine pw_iconst hO dL_law_373 (v := 3) (by decide) ?_
        refine pw_iadd hO dL_law_374 ?_
        refine pw_sld hO hX.2 dL_law_375 h (fun x85 h => ?_)
        refine pw_VI (a := v2) (ci := 8) (as := [.int x83, .int x84, .int x85]) (st := [.int x82]) (d := 2) hO [.int x85, .int x84, .int x83, .ref v2, .int x82] dL_law_376 vl_L_56 h (fun r F1 hg n => ct_X8_tell hg) ⟨Nat.le_of_ble_eq_true rfl, Nat.le_of_ble_eq_true rfl⟩ ⟨Nat.le_of_ble_eq_true rfl, Nat.le_of_ble_eq_true rfl⟩ (Nat.le_of_ble_eq_true rfl) (fun _ _ => rfl) rfl (fun x87 F86 h => ?_)
        refine pw_icmp_eq (tgt := 839) hO dL_law_379 (by decide) h (fun c88 h => ?_) (fun c88 h => ?_)
        · refine pw_sub (lv1 := [(0, .float 0), (1, .ref v1), (2, .ref v2), (3, .int v3)]) [0, 1, 2, 3] rfl ?_
          exact bl_L_law_b839 hX (g_L_law_b18 L xs n) ih F86 v1 v2 v3 h
        · refine pw_iconst hO dL_law_382 (v := 0) (by decide) ?_
          cases h
      refine pw_sw h (fun c89 h => ?_) (fun c89 h => ?_)
      · refine pw_tin (tgt := 384) hO dL_law_32 c89 (by decide) (by decide) (by rfl) (by decide) ?_
        refine pw_aload_n hO dL_law_384 1 rfl ?_
        refine pw_VI (a := v1) (ci := 7) (as := []) (st := []) (d := 3) hO [.ref v1] dL_law_385 vl_L_57 h (fun r F1 hg n => ct_X7_undo hg) ⟨Nat.le_of_ble_eq_true rfl, Nat.le_of_ble_eq_true rfl⟩ ⟨Nat.le_of_ble_eq_true rfl, Nat.le_of_ble_eq_true rfl⟩ (Nat.le_of_ble_eq_true rfl) (fun _ _ => rfl) rfl (fun x91 F90 h => ?_)
        refine pw_aload_n hO dL_law_388 2 rfl ?_
        refine pw_VI (a := v2) (ci := 8) (as := []) (st := [.int x91]) (d := 0) hO [.ref v2, .int x91] dL_law_389 vl_L_60 h (fun r F1 hg n => ct_X8_undo hg) ⟨Nat.le_of_ble_eq_true rfl, Nat.le_of_ble_eq_true rfl⟩ ⟨Nat.le_of_ble_eq_true rfl, Nat.le_of_ble_eq_true rfl⟩ (Nat.le_of_ble_eq_true rfl) (fun _ _ => rfl) rfl (fun x93 F92 h => ?_)
        refine pw_icmp_eq (tgt := 839) hO dL_law_392 (by decide) h (fun c94 h => ?_) (fun c94 h => ?_)
        · refine pw_sub (lv1 := [(0, .float 0), (1, .ref v1), (2, .ref v2), (3, .int v3)]) [0, 1, 2, 3] rfl ?_
          exact bl_L_law_b839 hX (g_L_law_b18 L xs n) ih F92 v1 v2 v3 h
        · refine pw_iconst hO dL_law_395 (v := 0) (by decide) ?_
          cases h
      refine pw_sw h (fun c95 h => ?_) (fun c95 h => ?_)
      · refine pw_tin (tgt := 397) hO dL_law_32 c95 (by decide) (by decide) (by rfl) (by decide) ?_
        refine pw_aload_n hO dL_law_397 1 rfl ?_
        refine pw_sload_n hO dL_law_398 0 rfl ?_
        refine pw_iload_n hO dL_law_399 3 rfl ?_
        refine pw_iconst hO dL_law_400 (v := 1) (by decide) ?_
        refine pw_iadd hO dL_law_401 ?_
        refine pw_sld hO hX.2 dL_law_402 h (fun x96 h => ?_)
        refine pw_sload_n hO dL_law_403 0 rfl ?_
        refine pw_iload_n hO dL_law_404 3 rfl ?_
        refine pw_iconst hO dL_law_405 (v := 2) (by decide) ?_
        refine pw_iadd hO dL_law_406 ?_
        refine pw_sld hO hX.2 dL_law_407 h (fun x97 h => ?_)
        refine pw_VI (a := v1) (ci := 7) (as := [.int x96, .int x97]) (st := []) (d := 4) hO [.int x97, .int x96, .ref v1] dL_law_408 vl_L_61 h (fun r F1 hg n => ct_X7_ahead hg) ⟨Nat.le_of_ble_eq_true rfl, Nat.le_of_ble_eq_true rfl⟩ ⟨Nat.le_of_ble_eq_true rfl, Nat.le_of_ble_eq_true rfl⟩ (Nat.le_of_ble_eq_true rfl) (fun _ _ => rfl) rfl (fun x99 F98 h => ?_)
        refine pw_aload_n hO dL_law_411 2 rfl ?_
        refine pw_sload_n hO dL_law_412 0 rfl ?_
        refine pw_iload_n hO dL_law_413 3 rfl ?_
        refine pw_iconst hO dL_law_414 (v := 1) (by decide) ?_
        refine pw_iadd hO dL_law_415 ?_
        refine pw_sld hO hX.2 dL_law_416 h (fun x100 h => ?_)
        refine pw_sload_n hO dL_law_417 0 rfl ?_
        refine pw_iload_n hO dL_law_418 3 rfl ?_
        refine pw_iconst hO dL_law_419 (v := 2) (by decide) ?_
        refine pw_iadd hO dL_law_420 ?_
        refine pw_sld hO hX.2 dL_law_421 h (fun x101 h => ?_)
        refine pw_VI (a := v2) (ci := 8) (as := [.int x100, .int x101]) (st := [.int x99]) (d := 3) hO [.int x101, .int x100, .ref v2, .int x99] dL_law_422 vl_L_64 h (fun r F1 hg n => ct_X8_ahead hg) ⟨Nat.le_of_ble_eq_true rfl, Nat.le_of_ble_eq_true rfl⟩ ⟨Nat.le_of_ble_eq_true rfl, Nat.le_of_ble_eq_true rfl⟩ (Nat.le_of_ble_eq_true rfl) (fun _ _ => rfl) rfl (fun x103 F102 h => ?_)
        refine pw_icmp_eq (tgt := 839) hO dL_law_425 (by decide) h (fun c104 h => ?_) (fun c104 h => ?_)
        · refine pw_sub (lv1 := [(0, .float 0), (1, .ref v1), (2, .ref v2), (3, .int v3)]) [0, 1, 2, 3] rfl ?_
          exact bl_L_law_b839 hX (g_L_law_b18 L xs n) ih F102 v1 v2 v3 h
        · refine pw_iconst hO dL_law_428 (v := 0) (by decide) ?_
          cases h
      refine pw_sw h (fun c105 h => ?_) (fun c105 h => ?_)
      · refine pw_tin (tgt := 430) hO dL_law_32 c105 (by decide) (by decide) (by rfl) (by decide) ?_
        refine pw_aload_n hO dL_law_430 1 rfl ?_
        refine pw_sload_n hO dL_law_431 0 rfl ?_
        refine pw_iload_n hO dL_law_432 3 rfl ?_
        refine pw_iconst hO dL_law_433 (v := 1) (by decide) ?_
        refine pw_iadd hO dL_law_434 ?_
        refine pw_sld hO hX.2 dL_law_435 h (fun x106 h => ?_)
        refine pw_VI (a := v1) (ci := 7) (as := [.int x106]) (st := []) (d := 5) hO [.int x106, .ref v1] dL_law_436 vl_L_65 h (fun r F1 hg n => ct_X7_play hg) ⟨Nat.le_of_ble_eq_true rfl, Nat.le_of_ble_eq_true rfl⟩ ⟨Nat.le_of_ble_eq_true rfl, Nat.le_of_ble_eq_true rfl⟩ (Nat.le_of_ble_eq_true rfl) (fun _ _ => rfl) rfl (fun x108 F107 h => ?_)
        refine pw_aload_n hO dL_law_439 2 rfl ?_
        refine pw_sload_n hO dL_law_440 0 rfl ?_
        refine pw_iload_n hO dL_law_441 3 rfl ?_
        refine pw_iconst hO dL_law_442 (v := 1) (by decide) ?_
        refine pw_iadd hO dL_law_443 ?_
        refine pw_sld hO hX.2 dL_law_444 h (fun x109 h => ?_)
        refine pw_VI (a := v2) (ci := 8) (as := [.int x109]) (st := [.int x108]) (d := 6) hO [.int x109, .ref v2, .int x108] dL_law_445 vl_L_68 h (fun r F1 hg n => ct_X8_play hg) ⟨Nat.le_of_ble_eq_true rfl, Nat.le_of_ble_eq_true rfl⟩ ⟨Nat.le_of_ble_eq_true rfl, Nat.le_of_ble_eq_true rfl⟩ (Nat.le_of_ble_eq_true rfl) (fun _ _ => rfl) rfl (fun x111 F110 h => ?_)
        refine pw_icmp_eq (tgt := 839) hO dL_law_448 (by decide) h (fun c112 h => ?_) (fun c112 h => ?_)
        · refine pw_sub (lv1 := [(0, .float 0), (1, .ref v1), (2, .ref v2), (3, .int v3)]) [0, 1, 2, 3] rfl ?_
          exact bl_L_law_b839 hX (g_L_law_b18 L xs n) ih F110 v1 v2 v3 h
        · refine pw_iconst hO dL_law_451 (v := 0) (by decide) ?_
          cases h
      refine pw_sw h (fun c113 h => ?_) (fun c113 h => ?_)
      · refine pw_tin (tgt := 453) hO dL_law_32 c113 (by decide) (by decide) (by rfl) (by decide) ?_
        refine pw_aload_n hO dL_law_453 1 rfl ?_
        refine pw_sload_n hO dL_law_454 0 rfl ?_
        refine pw_iload_n hO dL_law_455 3 rfl ?_
        refine pw_iconst hO dL_law_456 (v := 1) (by decide) ?_
        refine pw_iadd hO dL_law_457 ?_
        refine pw_sld hO hX.2 dL_law_458 h (fun x114 h => ?_)
        refine pw_sload_n hO dL_law_459 0 rfl ?_
        refine pw_iload_n hO dL_law_460 3 rfl ?_
        refine pw_iconst hO dL_law_461 (v := 2) (by decide) ?_
        refine pw_iadd hO dL_law_462 ?_
        refine pw_sld hO hX.2 dL_law_463 h (fun x115 h => ?_)
        refine pw_i2l hO dL_law_464 ?_
        refine pw_bipush hO dL_law_465 (v := 32) (by decide) ?_
        refine pw_lshl hO dL_law_467 ?_
        refine pw_sload_n hO dL_law_468 0 rfl ?_
        refine pw_iload_n hO dL_law_469 3 rfl ?_
        refine pw_iconst hO dL_law_470 (v := 3) (by decide) ?_
        refine pw_iadd hO dL_law_471 ?_
        refine pw_sld hO hX.2 dL_law_472 h (fun x116 h => ?_)
        refine pw_i2l hO dL_law_473 ?_
        refine pw_ldc2 hO dL_law_474 kl_L_69 ?_
        refine pw_land hO dL_law_477 ?_
        refine pw_lor hO dL_law_478 ?_
        refine pw_VI (a := v1) (ci := 7) (as := [.int x114, .long ((jlshl (Int32.toInt64 x115) 32) ||| ((Int32.toInt64 x116) &&& (4294967295 : Int64)))]) (st := []) (d := 6) hO [.long ((jlshl (Int32.toInt64 x115) 32) ||| ((Int32.toInt64 x116) &&& (4294967295 : Int64))), .int x114, .ref v1] dL_law_479 vl_L_71 h (fun r F1 hg n => ct_X7_judge hg) ⟨Nat.le_of_ble_eq_true rfl, Nat.le_of_ble_eq_true rfl⟩ ⟨Nat.le_of_ble_eq_true rfl, Nat.le_of_ble_eq_true rfl⟩ (Nat.le_of_ble_eq_true rfl) (fun _ _ => rfl) rfl (fun x118 F117 h => ?_)
        refine pw_aload_n hO dL_law_482 2 rfl ?_
        refine pw_sload_n hO dL_law_483 0 rfl ?_
        refine pw_iload_n hO dL_law_484 3 rfl ?_
        refine pw_iconst hO dL_law_485 (v := 1) (by decide) ?_
        refine pw_iadd hO dL_law_486 ?_
        refine pw_sld hO hX.2 dL_law_487 h (fun x119 h => ?_)
        refine pw_sload_n hO dL_law_488 0 rfl ?_
        refine pw_iload_n hO dL_law_489 3 rfl ?_
        refine pw_iconst hO dL_law_490 (v := 2) (by decide) ?_
        refine pw_iadd hO dL_law_491 ?_
        refine pw_sld hO hX.2 dL_law_492 h (fun x120 h => ?_)
        refine pw_i2l hO dL_law_493 ?_
        refine pw_bipush hO dL_law_494 (v := 32) (by decide) ?_
        refine pw_lshl hO dL_law_496 ?_
        refine pw_sload_n hO dL_law_497 0 rfl ?_
        refine pw_iload_n hO dL_law_498 3 rfl ?_
        refine pw_iconst hO dL_law_499 (v := 3) (by decide) ?_
        refine pw_iadd hO dL_law_500 ?_
        refine pw_sld hO hX.2 dL_law_501 h (fun x121 h => ?_)
        refine pw_i2l hO dL_law_502 ?_
        refine pw_ldc2 hO dL_law_503 kl_L_69 ?_
        refine pw_land hO dL_law_506 ?_
        refine pw_lor hO dL_law_507 ?_
        refine pw_VI (a := v2) (ci := 8) (as := [.int x119, .long ((jlshl (Int32.toInt64 x120) 32) ||| ((Int32.toInt64 x121) &&& (4294967295 : Int64)))]) (st := [.int x118]) (d := 4) hO [.long ((jlshl (Int32.toInt64 x120) 32) ||| ((Int32.toInt64 x121) &&& (4294967295 : Int64))), .int x119, .ref v2, .int x118] dL_law_508 vl_L_75 h (fun r F1 hg n => ct_X8_judge hg) ⟨Nat.le_of_ble_eq_true rfl, Nat.le_of_ble_eq_true rfl⟩ ⟨Nat.le_of_ble_eq_true rfl, Nat.le_of_ble_eq_true rfl⟩ (Nat.le_of_ble_eq_true rfl) (fun _ _ => rfl) rfl (fun x123 F122 h => ?_)
        refine pw_icmp_eq (tgt := 839) hO dL_law_511 (by decide) h (fun c124 h => ?_) (fun c124 h => ?_)
        · refine pw_sub (lv1 := [(0, .float 0), (1, .ref v1), (2, .ref v2), (3, .int v3)]) [0, 1, 2, 3] rfl ?_
          exact bl_L_law_b839 hX (g_L_law_b18 L xs n) ih F122 v1 v2 v3 h
        · refine pw_iconst hO dL_law_514 (v := 0) (by decide) ?_
          cases h
      refine pw_sw h (fun c125 h => ?_) (fun c125 h => ?_)
      · refine pw_tin (tgt := 516) hO dL_law_32 c125 (by decide) (by decide) (by rfl) (by decide) ?_
        refine pw_aload_n hO dL_law_516 1 rfl ?_
        refine pw_sload_n hO dL_law_517 0 rfl ?_
        refine pw_iload_n hO dL_law_518 3 rfl ?_
        refine pw_iconst hO dL_law_519 (v := 1) (by decide) ?_
        refine pw_iadd hO dL_law_520 ?_
        refine pw_sld hO hX.2 dL_law_521 h (fun x126 h => ?_)
        refine pw_sload_n hO dL_law_522 0 rfl ?_
        refine pw_iload_n hO dL_law_523 3 rfl ?_
        refine pw_iconst hO dL_law_524 (v := 2) (by decide) ?_
        refine pw_iadd hO dL_law_525 ?_
        refine pw_sld hO hX.2 dL_law_526 h (fun x127 h => ?_)
        refine pw_VI (a := v1) (ci := 7) (as := [.int x126, .int x127]) (st := []) (d := 1) hO [.int x127, .int x126, .ref v1] dL_law_527 vl_L_76 h (fun r F1 hg n => ct_X7_see hg) ⟨Nat.le_of_ble_eq_true rfl, Nat.le_of_ble_eq_true rfl⟩ ⟨Nat.le_of_ble_eq_true rfl, Nat.le_of_ble_eq_true rfl⟩ (Nat.le_of_ble_eq_true rfl) (fun _ _ => rfl) rfl (fun x129 F128 h => ?_)
        refine pw_aload_n hO dL_law_530 2 rfl ?_
        refine pw_sload_n hO dL_law_531 0 rfl ?_
        refine pw_iload_n hO dL_law_532 3 rfl ?_
        refine pw_iconst hO dL_law_533 (v := 1) (by decide) ?_
        refine pw_iadd hO dL_law_534 ?_
        refine pw_sld hO hX.2 dL_law_535 h (fun x130 h => ?_)
        refine pw_sload_n hO dL_law_536 0 rfl ?_
        refine pw_iload_n hO dL_law_537 3 rfl ?_
        refine pw_iconst hO dL_law_538 (v := 2) (by decide) ?_
        refine pw_iadd hO dL_law_539 ?_
        refine pw_sld hO hX.2 dL_law_540 h (fun x131 h => ?_)
        refine pw_VI (a := v2) (ci := 8) (as := [.int x130, .int x131]) (st := [.int x129]) (d := 1) hO [.int x131, .int x130, .ref v2, .int x129] dL_law_541 vl_L_79 h (fun r F1 hg n => ct_X8_see hg) ⟨Nat.le_of_ble_eq_true rfl, Nat.le_of_ble_eq_true rfl⟩ ⟨Nat.le_of_ble_eq_true rfl, Nat.le_of_ble_eq_true rfl⟩ (Nat.le_of_ble_eq_true rfl) (fun _ _ => rfl) rfl (fun x133 F132 h => ?_)
        refine pw_icmp_eq (tgt := 839) hO dL_law_544 (by decide) h (fun c134 h => ?_) (fun c134 h => ?_)
        · refine pw_sub (lv1 := [(0, .float 0), (1, .ref v1), (2, .ref v2), (3, .int v3)]) [0, 1, 2, 3] rfl ?_
          exact bl_L_law_b839 hX (g_L_law_b18 L xs n) ih F132 v1 v2 v3 h
        · refine pw_iconst hO dL_law_547 (v := 0) (by decide) ?_
          cases h
      refine pw_sw h (fun c135 h => ?_) (fun c135 h => ?_)
      · refine pw_tin (tgt := 549) hO dL_law_32 c135 (by decide) (by decide) (by rfl) (by decide) ?_
        refine pw_aload_n hO dL_law_549 1 rfl ?_
        refine pw_VI (a := v1) (ci := 7) (as := []) (st := []) (d := 0) hO [.ref v1] dL_law_550 vl_L_80 h (fun r F1 hg n => ct_X7_unsee hg) ⟨Nat.le_of_ble_eq_true rfl, Nat.le_of_ble_eq_true rfl⟩ ⟨Nat.le_of_ble_eq_true rfl, Nat.le_of_ble_eq_true rfl⟩ (Nat.le_of_ble_eq_true rfl) (fun _ _ => rfl) rfl (fun x137 F136 h => ?_)
        refine pw_aload_n hO dL_law_553 2 rfl ?_
        refine pw_VI (a := v2) (ci := 8) (as := []) (st := [.int x137]) (d := 0) hO [.ref v2, .int x137] dL_law_554 vl_L_83 h (fun r F1 hg n => ct_X8_unsee hg) ⟨Nat.le_of_ble_eq_true rfl, Nat.le_of_ble_eq_true rfl⟩ ⟨Nat.le_of_ble_eq_true rfl, Nat.le_of_ble_eq_true rfl⟩ (Nat.le_of_ble_eq_true rfl) (fun _ _ => rfl) rfl (fun x139 F138 h => ?_)
        refine pw_icmp_eq (tgt := 839) hO dL_law_557 (by decide) h (fun c140 h => ?_) (fun c140 h => ?_)
        · refine pw_sub (lv1 := [(0, .float 0), (1, .ref v1), (2, .ref v2), (3, .int v3)]) [0, 1, 2, 3] rfl ?_
          exact bl_L_law_b839 hX (g_L_law_b18 L xs n) ih F138 v1 v2 v3 h
        · refine pw_iconst hO dL_law_560 (v := 0) (by decide) ?_
          cases h
      refine pw_sw h (fun c141 h => ?_) (fun c141 h => ?_)
      · refine pw_tin (tgt := 562) hO dL_law_32 c141 (by decide) (by decide) (by rfl) (by decide) ?_
        refine pw_aload_n hO dL_law_562 1 rfl ?_
        refine pw_VI (a := v1) (ci := 7) (as := []) (st := []) (d := 6) hO [.ref v1] dL_law_563 vl_L_84 h (fun r F1 hg n => ct_X7_which hg) ⟨Nat.le_of_ble_eq_true rfl, Nat.le_of_ble_eq_true rfl⟩ ⟨Nat.le_of_ble_eq_true rfl, Nat.le_of_ble_eq_true rfl⟩ (Nat.le_of_ble_eq_true rfl) (fun _ _ => rfl) rfl (fun x143 F142 h => ?_)
        refine pw_aload_n hO dL_law_566 2 rfl ?_
        refine pw_VI (a := v2) (ci := 8) (as := []) (st := [.int x143]) (d := 5) hO [.ref v2, .int x143] dL_law_567 vl_L_87 h (fun r F1 hg n => ct_X8_which hg) ⟨Nat.le_of_ble_eq_true rfl, Nat.le_of_ble_eq_true rfl⟩ ⟨Nat.le_of_ble_eq_true rfl, Nat.le_of_ble_eq_true rfl⟩ (Nat.le_of_ble_eq_true rfl) (fun _ _ => rfl) rfl (fun x145 F144 h => ?_)
        refine pw_icmp_eq (tgt := 839) hO dL_law_570 (by decide) h (fun c146 h => ?_) (fun c146 h => ?_)
        · refine pw_sub (lv1 := [(0, .float 0), (1, .ref v1), (2, .ref v2), (3, .int v3)]) [0, 1, 2, 3] rfl ?_
          exact bl_L_law_b839 hX (g_L_law_b18 L xs n) ih F144 v1 v2 v3 h
        · refine pw_iconst hO dL_law_573 (v := 0) (by decide) ?_
          cases h
      refine pw_sw h (fun c147 h => ?_) (fun c147 h => ?_)
      · refine pw_tin (tgt := 575) hO dL_law_32 c147 (by decide) (by decide) (by rfl) (by decide) ?_
        refine pw_aload_n hO dL_law_575 1 rfl ?_
        refine pw_sload_n hO dL_law_576 0 rfl ?_
        refine pw_iload_n hO dL_law_577 3 rfl ?_
        refine pw_iconst hO dL_law_578 (v := 1) (by decide) ?_
        refine pw_iadd hO dL_law_579 ?_
        refine pw_sld hO hX.2 dL_law_580 h (fun x148 h => ?_)
        refine pw_sload_n hO dL_law_581 0 rfl ?_
        refine pw_iload_n hO dL_law_582 3 rfl ?_
        refine pw_iconst hO dL_law_583 (v := 2) (by decide) ?_
        refine pw_iadd hO dL_law_584 ?_
        refine pw_sld hO hX.2 dL_law_585 h (fun x149 h => ?_)
        refine pw_if_eq (tgt := 593) hO dL_law_586 (by decide) h (fun c150 h => ?_) (fun c150 h => ?_)
        · refine pw_iconst hO dL_law_593 (v := 0) (by decide) ?_
          refine pw_sub (lv1 := [(0, .float 0), (1, .ref v1), (2, .ref v2), (3, .int v3)]) [0, 1, 2, 3] rfl ?_
          exact bl_L_law_b594 hX (g_L_law_b18 L xs n) ih F v1 v2 v3 v1 x148 0 h
        · refine pw_iconst hO dL_law_589 (v := 1) (by decide) ?_
          refine pw_goto (tgt := 594) hO dL_law_590 (by decide) ?_
          refine pw_sub (lv1 := [(0, .float 0), (1, .ref v1), (2, .ref v2), (3, .int v3)]) [0, 1, 2, 3] rfl ?_
          exact bl_L_law_b594 hX (g_L_law_b18 L xs n) ih F v1 v2 v3 v1 x148 1 h
      refine pw_sw h (fun c159 h => ?_) (fun c159 h => ?_)
      · refine pw_tin (tgt := 624) hO dL_law_32 c159 (by decide) (by decide) (by rfl) (by decide) ?_
        refine pw_aload_n hO dL_law_624 1 rfl ?_
        refine pw_sload_n hO dL_law_625 0 rfl ?_
        refine pw_iload_n hO dL_law_626 3 rfl ?_
        refine pw_iconst hO dL_law_627 (v := 1) (by decide) ?_
        refine pw_iadd hO dL_law_628 ?_
        refine pw_sld hO hX.2 dL_law_629 h (fun x160 h => ?_)
        refine pw_sload_n hO dL_law_630 0 rfl ?_
        refine pw_iload_n hO dL_law_631 3 rfl ?_
        refine pw_iconst hO dL_law_632 (v := 2) (by decide) ?_
        refine pw_iadd hO dL_law_633 ?_
        refine pw_sld hO hX.2 dL_law_634 h (fun x161 h => ?_)
        refine pw_sload_n hO dL_law_635 0 rfl ?_
        refine pw_iload_n hO dL_law_636 3 rfl ?_
        refine pw_iconst hO dL_law_637 (v := 3) (by decide) ?_
        refine pw_iadd hO dL_law_638 ?_
        refine pw_sld hO hX.2 dL_law_639 h (fun x162 h => ?_)
        refine pw_sload_n hO dL_law_640 0 rfl ?_
        refine pw_iload_n hO dL_law_641 3 rfl ?_
        refine pw_iconst hO dL_law_642 (v := 4) (by decide) ?_
        refine pw_iadd hO dL_law_643 ?_
        refine pw_sld hO hX.2 dL_law_644 h (fun x163 h => ?_)
        refine pw_if_eq (tgt := 652) hO dL_law_645 (by decide) h (fun c164 h => ?_) (fun c164 h => ?_)
        · refine pw_iconst hO dL_law_652 (v := 0) (by decide) ?_
          refine pw_sub (lv1 := [(0, .float 0), (1, .ref v1), (2, .ref v2), (3, .int v3)]) [0, 1, 2, 3] rfl ?_
          exact bl_L_law_b653 hX (g_L_law_b18 L xs n) ih F v1 v2 v3 v1 x160 x161 x162 0 h
        · refine pw_iconst hO dL_law_648 (v := 1) (by decide) ?_
          refine pw_goto (tgt := 653) hO dL_law_649 (by decide) ?_
          refine pw_sub (lv1 := [(0, .float 0), (1, .ref v1), (2, .ref v2), (3, .int v3)]) [0, 1, 2, 3] rfl ?_
          exact bl_L_law_b653 hX (g_L_law_b18 L xs n) ih F v1 v2 v3 v1 x160 x161 x162 1 h
      refine pw_sw h (fun c175 h => ?_) (fun c175 h => ?_)
      · refine pw_tin (tgt := 693) hO dL_law_32 c175 (by decide) (by decide) (by rfl) (by decide) ?_
        refine pw_aload_n hO dL_law_693 1 rfl ?_
        refine pw_sload_n hO dL_law_694 0 rfl ?_
        refine pw_iload_n hO dL_law_695 3 rfl ?_
        refine pw_iconst hO dL_law_696 (v := 1) (by decide) ?_
        refine pw_iadd hO dL_law_697 ?_
        refine pw_sld hO hX.2 dL_law_698 h (fun x176 h => ?_)
        refine pw_i2l hO dL_law_699 ?_
        refine pw_bipush hO dL_law_700 (v := 32) (by decide) ?_
        refine pw_lshl hO dL_law_702 ?_
        refine pw_sload_n hO dL_law_703 0 rfl ?_
        refine pw_iload_n hO dL_law_704 3 rfl ?_
        refine pw_iconst hO dL_law_705 (v := 2) (by decide) ?_
        refine pw_iadd hO dL_law_706 ?_
        refine pw_sld hO hX.2 dL_law_707 h (fun x177 h => ?_)
        refine pw_i2l hO dL_law_708 ?_
        refine pw_ldc2 hO dL_law_709 kl_L_69 ?_
        refine pw_land hO dL_law_712 ?_
        refine pw_lor hO dL_law_713 ?_
        refine pw_VL (a := v1) (ci := 7) (as := [.long ((jlshl (Int32.toInt64 x176) 32) ||| ((Int32.toInt64 x177) &&& (4294967295 : Int64)))]) (st := []) (d := 0) hO [.long ((jlshl (Int32.toInt64 x176) 32) ||| ((Int32.toInt64 x177) &&& (4294967295 : Int64))), .ref v1] dL_law_714 vl_L_98 h (fun r F1 hg n => ct_X7_seed hg) ⟨Nat.le_of_ble_eq_true rfl, Nat.le_of_ble_eq_true rfl⟩ ⟨Nat.le_of_ble_eq_true rfl, Nat.le_of_ble_eq_true rfl⟩ (Nat.le_of_ble_eq_true rfl) (fun _ _ => rfl) rfl (fun x179 F178 h => ?_)
        refine pw_aload_n hO dL_law_717 2 rfl ?_
        refine pw_sload_n hO dL_law_718 0 rfl ?_
        refine pw_iload_n hO dL_law_719 3 rfl ?_
        refine pw_iconst hO dL_law_720 (v := 1) (by decide) ?_
        refine pw_iadd hO dL_law_721 ?_
        refine pw_sld hO hX.2 dL_law_722 h (fun x180 h => ?_)
        refine pw_i2l hO dL_law_723 ?_
        refine pw_bipush hO dL_law_724 (v := 32) (by decide) ?_
        refine pw_lshl hO dL_law_726 ?_
        refine pw_sload_n hO dL_law_727 0 rfl ?_
        refine pw_iload_n hO dL_law_728 3 rfl ?_
        refine pw_iconst hO dL_law_729 (v := 2) (by decide) ?_
        refine pw_iadd hO dL_law_730 ?_
        refine pw_sld hO hX.2 dL_law_731 h (fun x181 h => ?_)
        refine pw_i2l hO dL_law_732 ?_
        refine pw_ldc2 hO dL_law_733 kl_L_69 ?_
        refine pw_land hO dL_law_736 ?_
        refine pw_lor hO dL_law_737 ?_
        refine pw_VL (a := v2) (ci := 8) (as := [.long ((jlshl (Int32.toInt64 x180) 32) ||| ((Int32.toInt64 x181) &&& (4294967295 : Int64)))]) (st := [.long x179]) (d := 0) hO [.long ((jlshl (Int32.toInt64 x180) 32) ||| ((Int32.toInt64 x181) &&& (4294967295 : Int64))), .ref v2, .long x179] dL_law_738 vl_L_102 h (fun r F1 hg n => ct_X8_seed hg) ⟨Nat.le_of_ble_eq_true rfl, Nat.le_of_ble_eq_true rfl⟩ ⟨Nat.le_of_ble_eq_true rfl, Nat.le_of_ble_eq_true rfl⟩ (Nat.le_of_ble_eq_true rfl) (fun _ _ => rfl) rfl (fun x183 F182 h => ?_)
        refine pw_lcmp hO dL_law_741 ?_
        refine pw_if_eq (tgt := 839) hO dL_law_742 (by decide) h (fun c184 h => ?_) (fun c184 h => ?_)
        · refine pw_sub (lv1 := [(0, .float 0), (1, .ref v1), (2, .ref v2), (3, .int v3)]) [0, 1, 2, 3] rfl ?_
          exact bl_L_law_b839 hX (g_L_law_b18 L xs n) ih F182 v1 v2 v3 h
        · refine pw_iconst hO dL_law_745 (v := 0) (by decide) ?_
          cases h
      refine pw_sw h (fun c185 h => ?_) (fun c185 h => ?_)
      · refine pw_tin (tgt := 747) hO dL_law_32 c185 (by decide) (by decide) (by rfl) (by decide) ?_
        refine pw_aload_n hO dL_law_747 1 rfl ?_
        refine pw_sload_n hO dL_law_748 0 rfl ?_
        refine pw_iload_n hO dL_law_749 3 rfl ?_
        refine pw_iconst hO dL_law_750 (v := 1) (by decide) ?_
        refine pw_iadd hO dL_law_751 ?_
        refine pw_sld hO hX.2 dL_law_752 h (fun x186 h => ?_)
        refine pw_VI (a := v1) (ci := 7) (as := [.int x186]) (st := []) (d := 3) hO [.int x186, .ref v1] dL_law_753 vl_L_103 h (fun r F1 hg n => ct_X7_drawn hg) ⟨Nat.le_of_ble_eq_true rfl, Nat.le_of_ble_eq_true rfl⟩ ⟨Nat.le_of_ble_eq_true rfl, Nat.le_of_ble_eq_true rfl⟩ (Nat.le_of_ble_eq_true rfl) (fun _ _ => rfl) rfl (fun x188 F187 h => ?_)
        refine pw_aload_n hO dL_law_756 2 rfl ?_
        refine pw_sload_n hO dL_law_757 0 rfl ?_
        refine pw_iload_n hO dL_law_758 3 rfl ?_
        refine pw_iconst hO dL_law_759 (v := 1) (by decide) ?_
        refine pw_iadd hO dL_law_760 ?_
        refine pw_sld hO hX.2 dL_law_761 h (fun x189 h => ?_)
        refine pw_VI (a := v2) (ci := 8) (as := [.int x189]) (st := [.int x188]) (d := 3) hO [.int x189, .ref v2, .int x188] dL_law_762 vl_L_106 h (fun r F1 hg n => ct_X8_drawn hg) ⟨Nat.le_of_ble_eq_true rfl, Nat.le_of_ble_eq_true rfl⟩ ⟨Nat.le_of_ble_eq_true rfl, Nat.le_of_ble_eq_true rfl⟩ (Nat.le_of_ble_eq_true rfl) (fun _ _ => rfl) rfl (fun x191 F190 h => ?_)
        refine pw_icmp_eq (tgt := 839) hO dL_law_765 (by decide) h (fun c192 h => ?_) (fun c192 h => ?_)
        · refine pw_sub (lv1 := [(0, .float 0), (1, .ref v1), (2, .ref v2), (3, .int v3)]) [0, 1, 2, 3] rfl ?_
          exact bl_L_law_b839 hX (g_L_law_b18 L xs n) ih F190 v1 v2 v3 h
        · refine pw_iconst hO dL_law_768 (v := 0) (by decide) ?_
          cases h
      refine pw_sw h (fun c193 h => ?_) (fun c193 h => ?_)
      · refine pw_tin (tgt := 770) hO dL_law_32 c193 (by decide) (by decide) (by rfl) (by decide) ?_
        refine pw_aload_n hO dL_law_770 1 rfl ?_
        refine pw_sload_n hO dL_law_771 0 rfl ?_
        refine pw_iload_n hO dL_law_772 3 rfl ?_
        refine pw_iconst hO dL_law_773 (v := 1) (by decide) ?_
        refine pw_iadd hO dL_law_774 ?_
        refine pw_sld hO hX.2 dL_law_775 h (fun x194 h => ?_)
        refine pw_VI (a := v1) (ci := 7) (as := [.int x194]) (st := []) (d := 2) hO [.int x194, .ref v1] dL_law_776 vl_L_107 h (fun r F1 hg n => ct_X7_keep hg) ⟨Nat.le_of_ble_eq_true rfl, Nat.le_of_ble_eq_true rfl⟩ ⟨Nat.le_of_ble_eq_true rfl, Nat.le_of_ble_eq_true rfl⟩ (Nat.le_of_ble_eq_true rfl) (fun _ _ => rfl) rfl (fun x196 F195 h => ?_)
        refine pw_aload_n hO dL_law_779 2 rfl ?_
        refine pw_sload_n hO dL_law_780 0 rfl ?_
        refine pw_iload_n hO dL_law_781 3 rfl ?_
        refine pw_iconst hO dL_law_782 (v := 1) (by decide) ?_
        refine pw_iadd hO dL_law_783 ?_
        refine pw_sld hO hX.2 dL_law_784 h (fun x197 h => ?_)
        refine pw_VI (a := v2) (ci := 8) (as := [.int x197]) (st := [.int x196]) (d := 1) hO [.int x197, .ref v2, .int x196] dL_law_785 vl_L_110 h (fun r F1 hg n => ct_X8_keep hg) ⟨Nat.le_of_ble_eq_true rfl, Nat.le_of_ble_eq_true rfl⟩ ⟨Nat.le_of_ble_eq_true rfl, Nat.le_of_ble_eq_true rfl⟩ (Nat.le_of_ble_eq_true rfl) (fun _ _ => rfl) rfl (fun x199 F198 h => ?_)
        refine pw_icmp_eq (tgt := 839) hO dL_law_788 (by decide) h (fun c200 h => ?_) (fun c200 h => ?_)
        · refine pw_sub (lv1 := [(0, .float 0), (1, .ref v1), (2, .ref v2), (3, .int v3)]) [0, 1, 2, 3] rfl ?_
          exact bl_L_law_b839 hX (g_L_law_b18 L xs n) ih F198 v1 v2 v3 h
        · refine pw_iconst hO dL_law_791 (v := 0) (by decide) ?_
          cases h
      refine pw_sw h (fun c201 h => ?_) (fun c201 h => ?_)
      · refine pw_tin (tgt := 793) hO dL_law_32 c201 (by decide) (by decide) (by rfl) (by decide) ?_
        refine pw_aload_n hO dL_law_793 1 rfl ?_
        refine pw_sload_n hO dL_law_794 0 rfl ?_
        refine pw_iload_n hO dL_law_795 3 rfl ?_
        refine pw_iconst hO dL_law_796 (v := 1) (by decide) ?_
        refine pw_iadd hO dL_law_797 ?_
        refine pw_sld hO hX.2 dL_law_798 h (fun x202 h => ?_)
        refine pw_VI (a := v1) (ci := 7) (as := [.int x202]) (st := []) (d := 2) hO [.int x202, .ref v1] dL_law_799 vl_L_111 h (fun r F1 hg n => ct_X7_again hg) ⟨Nat.le_of_ble_eq_true rfl, Nat.le_of_ble_eq_true rfl⟩ ⟨Nat.le_of_ble_eq_true rfl, Nat.le_of_ble_eq_true rfl⟩ (Nat.le_of_ble_eq_true rfl) (fun _ _ => rfl) rfl (fun x204 F203 h => ?_)
        refine pw_aload_n hO dL_law_802 2 rfl ?_
        refine pw_sload_n hO dL_law_803 0 rfl ?_
        refine pw_iload_n hO dL_law_804 3 rfl ?_
        refine pw_iconst hO dL_law_805 (v := 1) (by decide) ?_
        refine pw_iadd hO dL_law_806 ?_
        refine pw_sld hO hX.2 dL_law_807 h (fun x205 h => ?_)
        refine pw_VI (a := v2) (ci := 8) (as := [.int x205]) (st := [.int x204]) (d := 1) hO [.int x205, .ref v2, .int x204] dL_law_808 vl_L_114 h (fun r F1 hg n => ct_X8_again hg) ⟨Nat.le_of_ble_eq_true rfl, Nat.le_of_ble_eq_true rfl⟩ ⟨Nat.le_of_ble_eq_true rfl, Nat.le_of_ble_eq_true rfl⟩ (Nat.le_of_ble_eq_true rfl) (fun _ _ => rfl) rfl (fun x207 F206 h => ?_)
        refine pw_icmp_eq (tgt := 839) hO dL_law_811 (by decide) h (fun c208 h => ?_) (fun c208 h => ?_)
        · refine pw_sub (lv1 := [(0, .float 0), (1, .ref v1), (2, .ref v2), (3, .int v3)]) [0, 1, 2, 3] rfl ?_
          exact bl_L_law_b839 hX (g_L_law_b18 L xs n) ih F206 v1 v2 v3 h
        · refine pw_iconst hO dL_law_814 (v := 0) (by decide) ?_
          cases h
      refine pw_sw h (fun c209 h => ?_) (fun c209 h => ?_)
      · refine pw_tin (tgt := 816) hO dL_law_32 c209 (by decide) (by decide) (by rfl) (by decide) ?_
        refine pw_aload_n hO dL_law_816 1 rfl ?_
        refine pw_sload_n hO dL_law_817 0 rfl ?_
        refine pw_iload_n hO dL_law_818 3 rfl ?_
        refine pw_iconst hO dL_law_819 (v := 1) (by decide) ?_
        refine pw_iadd hO dL_law_820 ?_
        refine pw_sld hO hX.2 dL_law_821 h (fun x210 h => ?_)
        refine pw_VI (a := v1) (ci := 7) (as := [.int x210]) (st := []) (d := 0) hO [.int x210, .ref v1] dL_law_822 vl_L_115 h (fun r F1 hg n => ct_X7_count hg) ⟨Nat.le_of_ble_eq_true rfl, Nat.le_of_ble_eq_true rfl⟩ ⟨Nat.le_of_ble_eq_true rfl, Nat.le_of_ble_eq_true rfl⟩ (Nat.le_of_ble_eq_true rfl) (fun _ _ => rfl) rfl (fun x212 F211 h => ?_)
        refine pw_aload_n hO dL_law_825 2 rfl ?_
        refine pw_sload_n hO dL_law_826 0 rfl ?_
        refine pw_iload_n hO dL_law_827 3 rfl ?_
        refine pw_iconst hO dL_law_828 (v := 1) (by decide) ?_
        refine pw_iadd hO dL_law_829 ?_
        refine pw_sld hO hX.2 dL_law_830 h (fun x213 h => ?_)
        refine pw_VI (a := v2) (ci := 8) (as := [.int x213]) (st := [.int x212]) (d := 0) hO [.int x213, .ref v2, .int x212] dL_law_831 vl_L_118 h (fun r F1 hg n => ct_X8_count hg) ⟨Nat.le_of_ble_eq_true rfl, Nat.le_of_ble_eq_true rfl⟩ ⟨Nat.le_of_ble_eq_true rfl, Nat.le_of_ble_eq_true rfl⟩ (Nat.le_of_ble_eq_true rfl) (fun _ _ => rfl) rfl (fun x215 F214 h => ?_)
        refine pw_icmp_eq (tgt := 839) hO dL_law_834 (by decide) h (fun c216 h => ?_) (fun c216 h => ?_)
        · refine pw_sub (lv1 := [(0, .float 0), (1, .ref v1), (2, .ref v2), (3, .int v3)]) [0, 1, 2, 3] rfl ?_
          exact bl_L_law_b839 hX (g_L_law_b18 L xs n) ih F214 v1 v2 v3 h
        · refine pw_iconst hO dL_law_837 (v := 0) (by decide) ?_
          cases h
      refine pw_tout (tgt := 839) hO dL_law_32 (by have e0 := lv_neT (a := 0) c7 (by decide); have e1 := lv_neT (a := 1) c15 (by decide); have e2 := lv_neT (a := 2) c21 (by decide); have e3 := lv_neT (a := 3) c27 (by decide); have e4 := lv_neT (a := 4) c33 (by decide); have e5 := lv_neT (a := 5) c41 (by decide); have e6 := lv_neT (a := 6) c51 (by decide); have e7 := lv_neT (a := 7) c61 (by decide); have e8 := lv_neT (a := 8) c69 (by decide); have e9 := lv_neT (a := 9) c77 (by decide); have e10 := lv_neT (a := 10) c89 (by decide); have e11 := lv_neT (a := 11) c95 (by decide); have e12 := lv_neT (a := 12) c105 (by decide); have e13 := lv_neT (a := 13) c113 (by decide); have e14 := lv_neT (a := 14) c125 (by decide); have e15 := lv_neT (a := 15) c135 (by decide); have e16 := lv_neT (a := 16) c141 (by decide); have e17 := lv_neT (a := 17) c147 (by decide); have e18 := lv_neT (a := 18) c159 (by decide); have e19 := lv_neT (a := 19) c175 (by decide); have e20 := lv_neT (a := 20) c185 (by decide); have e21 := lv_neT (a := 21) c193 (by decide); have e22 := lv_neT (a := 22) c201 (by decide); have e23 := lv_neT (a := 23) c209 (by decide); omega) (by decide) ?_
      refine pw_sub (lv1 := [(0, .float 0), (1, .ref v1), (2, .ref v2), (3, .int v3)]) [0, 1, 2, 3] rfl ?_
      exact bl_L_law_b839 hX (g_L_law_b18 L xs n) ih F v1 v2 v3 h
def g_L_law (L : Nat) (xs : Nat → Int32) (F : Hp) : Option Unit := (letH (va_up F 0 (.inr (7, [.null, .null, .null, .null, .null, .null, .null, .null, .long 0]))) fun F1 => ((g_X7_init 1 F1 0).bind fun F2 => (letH (va_up F2 107 (.inr (8, [.int 0, .null, .int 0, .int 0, .null, .null, .int 0, .null, .null, .null, .int 0, .null, .null, .int 0, .null, .null, .int 0, .null, .null, .long 0, .null, .int 0]))) fun F3 => ((g_X8_init 108 F3 107).bind fun F4 => g_L_law_b18 L xs gF F4 0 107 0))))
set_option maxHeartbeats 4000000 in
set_option maxRecDepth 100000 in
theorem bl_L_law {X : Cx} {L : Nat} {xs : Nat → Int32} (hX : Ok X code RL 4 room_1 ∧ LwX X L xs) (hn : X.2.2.2.2.1 = 0) (F : Hp) (h : g_L_law L xs F = some ()) : PW X 0 0 F 0 [(0, .float 0)] [] := by
  have hO := hX.1
  unfold g_L_law at h
  refine pw_new hO hn dL_law_0 cl_L_7 0 1 9 rfl rfl rfl ⟨Nat.le_of_ble_eq_true rfl, Nat.le_of_ble_eq_true rfl⟩ ?_
  obtain ⟨F1, eF1, h⟩ := letH_spec h
  rw [← eF1]
  refine pw_dup hO dL_law_3 rfl ?_
  refine pw_runI (st := [.ref 0]) (d := 4) (K := 106) (S := 1027) hO hn dL_law_4 il_L_9 h 1 107 1036 rfl rfl rfl (fun F1 hg => ct_X7_init hg) ⟨Nat.le_of_ble_eq_true rfl, Nat.le_of_ble_eq_true rfl⟩ ⟨Nat.le_of_ble_eq_true rfl, Nat.le_of_ble_eq_true rfl⟩ (Nat.le_of_ble_eq_true rfl) (fun F2 h => ?_)
  refine pw_astore_n hO [(1, .ref 0), (0, .float 0)] dL_law_7 (by decide) rfl ?_
  refine pw_new hO hn dL_law_8 cl_L_10 107 108 1058 rfl rfl rfl ⟨Nat.le_of_ble_eq_true rfl, Nat.le_of_ble_eq_true rfl⟩ ?_
  obtain ⟨F3, eF3, h⟩ := letH_spec h
  rw [← eF3]
  refine pw_dup hO dL_law_11 rfl ?_
  refine pw_runI (st := [.ref 107]) (d := 1) (K := 13) (S := 1134) hO hn dL_law_12 il_L_12 h 108 121 2192 rfl rfl rfl (fun F1 hg => ct_X8_init hg) ⟨Nat.le_of_ble_eq_true rfl, Nat.le_of_ble_eq_true rfl⟩ ⟨Nat.le_of_ble_eq_true rfl, Nat.le_of_ble_eq_true rfl⟩ (Nat.le_of_ble_eq_true rfl) (fun F4 h => ?_)
  refine pw_astore_n hO [(2, .ref 107), (1, .ref 0), (0, .float 0)] dL_law_15 (by decide) rfl ?_
  refine pw_iconst hO dL_law_16 (v := 0) (by decide) ?_
  refine pw_istore_n hO [(3, .int 0), (2, .ref 107), (1, .ref 0), (0, .float 0)] dL_law_17 (by decide) rfl ?_
  refine pw_sub (lv1 := [(0, .float 0), (1, .ref 0), (2, .ref 107), (3, .int 0)]) [3, 2, 1, 0] rfl ?_
  exact bl_L_law_b18 hX gF F4 0 107 0 h
