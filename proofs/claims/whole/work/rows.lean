section
-- ===== PART A: goes FIRST, ahead of the names: the tables' words, and 'selects' of the private methods out of them =====
/-- a private method of a class that the tables say can be made, by its rows of tables_1 -/
def lw_okq (q : MethodName × Nat) : Prop := (q.1.cls ≠ "java/lang/invoke/MethodHandle" ∧ q.1.cls ≠ "java/lang/invoke/VarHandle") ∧ Cond.instantiable q.1.cls q.2 ∈ tables_1 ∧ Cond.privateMethod q.1 ∈ tables_1 ∧ Cond.instanceMethod q.1 ∈ tables_1
theorem lw_p0 : lw_okq (⟨"DozeLink", "ticksTillQuiet", "()I"⟩, 9) := ⟨⟨by decide +kernel, by decide +kernel⟩, List.mem_of_getElem? (i := 13) (by decide +kernel), List.mem_of_getElem? (i := 362) (by decide +kernel), List.mem_of_getElem? (i := 363) (by decide +kernel)⟩
theorem lw_p1 : lw_okq (⟨"DozeLink", "bestCount", "(I)I"⟩, 9) := ⟨⟨by decide +kernel, by decide +kernel⟩, List.mem_of_getElem? (i := 13) (by decide +kernel), List.mem_of_getElem? (i := 384) (by decide +kernel), List.mem_of_getElem? (i := 385) (by decide +kernel)⟩
theorem lw_p2 : lw_okq (⟨"DozeLink", "explainsAll", "(I)Z"⟩, 9) := ⟨⟨by decide +kernel, by decide +kernel⟩, List.mem_of_getElem? (i := 13) (by decide +kernel), List.mem_of_getElem? (i := 496) (by decide +kernel), List.mem_of_getElem? (i := 497) (by decide +kernel)⟩
theorem lw_p3 : lw_okq (⟨"DozeLink", "energyOf", "(II)I"⟩, 9) := ⟨⟨by decide +kernel, by decide +kernel⟩, List.mem_of_getElem? (i := 13) (by decide +kernel), List.mem_of_getElem? (i := 519) (by decide +kernel), List.mem_of_getElem? (i := 520) (by decide +kernel)⟩
theorem lw_p4 : lw_okq (⟨"DozeLink", "slotOf", "(I)LDozeLink$Slot;"⟩, 9) := ⟨⟨by decide +kernel, by decide +kernel⟩, List.mem_of_getElem? (i := 13) (by decide +kernel), List.mem_of_getElem? (i := 566) (by decide +kernel), List.mem_of_getElem? (i := 567) (by decide +kernel)⟩
theorem lw_p5 : lw_okq (⟨"DozeLinkModel", "readLink", "()I"⟩, 22) := ⟨⟨by decide +kernel, by decide +kernel⟩, List.mem_of_getElem? (i := 578) (by decide +kernel), List.mem_of_getElem? (i := 671) (by decide +kernel), List.mem_of_getElem? (i := 672) (by decide +kernel)⟩
theorem lw_p6 : lw_okq (⟨"DozeLinkModel", "figure", "(I)I"⟩, 22) := ⟨⟨by decide +kernel, by decide +kernel⟩, List.mem_of_getElem? (i := 578) (by decide +kernel), List.mem_of_getElem? (i := 675) (by decide +kernel), List.mem_of_getElem? (i := 676) (by decide +kernel)⟩
theorem lw_p7 : lw_okq (⟨"DozeLinkModel", "doEvent", "([II)V"⟩, 22) := ⟨⟨by decide +kernel, by decide +kernel⟩, List.mem_of_getElem? (i := 578) (by decide +kernel), List.mem_of_getElem? (i := 692) (by decide +kernel), List.mem_of_getElem? (i := 693) (by decide +kernel)⟩
theorem lw_p8 : lw_okq (⟨"DozeLinkModel", "tick", "([I)V"⟩, 22) := ⟨⟨by decide +kernel, by decide +kernel⟩, List.mem_of_getElem? (i := 578) (by decide +kernel), List.mem_of_getElem? (i := 696) (by decide +kernel), List.mem_of_getElem? (i := 697) (by decide +kernel)⟩
theorem lw_p9 : lw_okq (⟨"DozeLinkModel", "isDue", "([II)Z"⟩, 22) := ⟨⟨by decide +kernel, by decide +kernel⟩, List.mem_of_getElem? (i := 578) (by decide +kernel), List.mem_of_getElem? (i := 709) (by decide +kernel), List.mem_of_getElem? (i := 710) (by decide +kernel)⟩
theorem lw_p10 : lw_okq (⟨"DozeLinkModel", "quiet", "([I)I"⟩, 22) := ⟨⟨by decide +kernel, by decide +kernel⟩, List.mem_of_getElem? (i := 578) (by decide +kernel), List.mem_of_getElem? (i := 729) (by decide +kernel), List.mem_of_getElem? (i := 730) (by decide +kernel)⟩
theorem lw_p11 : lw_okq (⟨"DozeLinkModel", "best", "(I)I"⟩, 22) := ⟨⟨by decide +kernel, by decide +kernel⟩, List.mem_of_getElem? (i := 578) (by decide +kernel), List.mem_of_getElem? (i := 744) (by decide +kernel), List.mem_of_getElem? (i := 745) (by decide +kernel)⟩
theorem lw_p12 : lw_okq (⟨"DozeLinkModel", "pricePlay", "()I"⟩, 22) := ⟨⟨by decide +kernel, by decide +kernel⟩, List.mem_of_getElem? (i := 578) (by decide +kernel), List.mem_of_getElem? (i := 748) (by decide +kernel), List.mem_of_getElem? (i := 749) (by decide +kernel)⟩
theorem lw_p13 : lw_okq (⟨"DozeLinkModel", "goOver", "(II)V"⟩, 22) := ⟨⟨by decide +kernel, by decide +kernel⟩, List.mem_of_getElem? (i := 578) (by decide +kernel), List.mem_of_getElem? (i := 752) (by decide +kernel), List.mem_of_getElem? (i := 753) (by decide +kernel)⟩
theorem lw_p14 : lw_okq (⟨"DozeLinkModel", "note", "()V"⟩, 22) := ⟨⟨by decide +kernel, by decide +kernel⟩, List.mem_of_getElem? (i := 578) (by decide +kernel), List.mem_of_getElem? (i := 764) (by decide +kernel), List.mem_of_getElem? (i := 765) (by decide +kernel)⟩
theorem lw_p15 : lw_okq (⟨"DozeLinkModel", "letters", "()I"⟩, 22) := ⟨⟨by decide +kernel, by decide +kernel⟩, List.mem_of_getElem? (i := 578) (by decide +kernel), List.mem_of_getElem? (i := 791) (by decide +kernel), List.mem_of_getElem? (i := 792) (by decide +kernel)⟩
def lw_privs_1 : List (MethodName × Nat) := [(⟨"DozeLink", "ticksTillQuiet", "()I"⟩, 9), (⟨"DozeLink", "bestCount", "(I)I"⟩, 9), (⟨"DozeLink", "explainsAll", "(I)Z"⟩, 9), (⟨"DozeLink", "energyOf", "(II)I"⟩, 9), (⟨"DozeLink", "slotOf", "(I)LDozeLink$Slot;"⟩, 9), (⟨"DozeLinkModel", "readLink", "()I"⟩, 22), (⟨"DozeLinkModel", "figure", "(I)I"⟩, 22), (⟨"DozeLinkModel", "doEvent", "([II)V"⟩, 22), (⟨"DozeLinkModel", "tick", "([I)V"⟩, 22), (⟨"DozeLinkModel", "isDue", "([II)Z"⟩, 22), (⟨"DozeLinkModel", "quiet", "([I)I"⟩, 22), (⟨"DozeLinkModel", "best", "(I)I"⟩, 22), (⟨"DozeLinkModel", "pricePlay", "()I"⟩, 22), (⟨"DozeLinkModel", "goOver", "(II)V"⟩, 22), (⟨"DozeLinkModel", "note", "()V"⟩, 22), (⟨"DozeLinkModel", "letters", "()I"⟩, 22)]
theorem lw_r1 : ∀ q ∈ lw_privs_1, lw_okq q := List.forall_mem_cons.mpr ⟨lw_p0, List.forall_mem_cons.mpr ⟨lw_p1, List.forall_mem_cons.mpr ⟨lw_p2, List.forall_mem_cons.mpr ⟨lw_p3, List.forall_mem_cons.mpr ⟨lw_p4, List.forall_mem_cons.mpr ⟨lw_p5, List.forall_mem_cons.mpr ⟨lw_p6, List.forall_mem_cons.mpr ⟨lw_p7, List.forall_mem_cons.mpr ⟨lw_p8, List.forall_mem_cons.mpr ⟨lw_p9, List.forall_mem_cons.mpr ⟨lw_p10, List.forall_mem_cons.mpr ⟨lw_p11, List.forall_mem_cons.mpr ⟨lw_p12, List.forall_mem_cons.mpr ⟨lw_p13, List.forall_mem_cons.mpr ⟨lw_p14, List.forall_mem_cons.mpr ⟨lw_p15, fun _ h => absurd h List.not_mem_nil⟩⟩⟩⟩⟩⟩⟩⟩⟩⟩⟩⟩⟩⟩⟩⟩
theorem lw_p16 : lw_okq (⟨"DozeLinkModel", "does", "(III)Z"⟩, 22) := ⟨⟨by decide +kernel, by decide +kernel⟩, List.mem_of_getElem? (i := 578) (by decide +kernel), List.mem_of_getElem? (i := 803) (by decide +kernel), List.mem_of_getElem? (i := 804) (by decide +kernel)⟩
theorem lw_p17 : lw_okq (⟨"DozeLinkModel", "layWas", "(I)V"⟩, 22) := ⟨⟨by decide +kernel, by decide +kernel⟩, List.mem_of_getElem? (i := 578) (by decide +kernel), List.mem_of_getElem? (i := 820) (by decide +kernel), List.mem_of_getElem? (i := 821) (by decide +kernel)⟩
theorem lw_p18 : lw_okq (⟨"DozeLinkModel", "tickNoted", "()V"⟩, 22) := ⟨⟨by decide +kernel, by decide +kernel⟩, List.mem_of_getElem? (i := 578) (by decide +kernel), List.mem_of_getElem? (i := 824) (by decide +kernel), List.mem_of_getElem? (i := 825) (by decide +kernel)⟩
theorem lw_p19 : lw_okq (⟨"DozeLinkModel", "energyBy", "(II)I"⟩, 22) := ⟨⟨by decide +kernel, by decide +kernel⟩, List.mem_of_getElem? (i := 578) (by decide +kernel), List.mem_of_getElem? (i := 838) (by decide +kernel), List.mem_of_getElem? (i := 839) (by decide +kernel)⟩
def lw_privs_2 : List (MethodName × Nat) := [(⟨"DozeLinkModel", "does", "(III)Z"⟩, 22), (⟨"DozeLinkModel", "layWas", "(I)V"⟩, 22), (⟨"DozeLinkModel", "tickNoted", "()V"⟩, 22), (⟨"DozeLinkModel", "energyBy", "(II)I"⟩, 22)]
theorem lw_r2 : ∀ q ∈ lw_privs_2, lw_okq q := List.forall_mem_cons.mpr ⟨lw_p16, List.forall_mem_cons.mpr ⟨lw_p17, List.forall_mem_cons.mpr ⟨lw_p18, List.forall_mem_cons.mpr ⟨lw_p19, fun _ h => absurd h List.not_mem_nil⟩⟩⟩⟩
def lw_privs : List (MethodName × Nat) := lw_privs_1 ++ (lw_privs_2)
def lw_tbl : List Cond := k2_sels lw_privs ++ tables_1
theorem lw_privs_ok : ∀ q ∈ lw_privs, lw_okq q := by
  show ∀ q ∈ lw_privs_1 ++ (lw_privs_2), lw_okq q
  exact List.forall_mem_append.mpr ⟨lw_r1, lw_r2⟩
end
section
def RX0 : String := "DozeLink$Acts"
def TX0 : u_T := fun k => match k with
  | 0 => ("DozeLink$Acts", "befores", "[LDozeLink$Doze;", true)
  | _ => ("DozeLink$Acts", "size", "I", false)
def tyX0 : Nat → FieldType := fun k => match k with
  | 0 => .array (.object "DozeLink$Doze")
  | _ => .int
abbrev wsX00 : List Cond := u_ws RX0 TX0 2
theorem nmX0 : ∀ a, a < 2 → ∀ b, b < 2 → a ≠ b → (TX0 a).2.1 ≠ (TX0 b).2.1 := by decide +kernel
theorem tyX0_ok : ∀ k, k < 2 → parseFieldDescriptor (TX0 k).2.2.1 = some (tyX0 k) := by decide +kernel
abbrev cX0_init : ByteArray := prog_2_method_1_code
def yX0_init : MethodName := ⟨RX0, "<init>", "()V"⟩
abbrev cX0_add : ByteArray := prog_2_method_2_code
def yX0_add : MethodName := ⟨RX0, "add", "(LDozeLink$Doze;)V"⟩
abbrev cX0_forgetFirst : ByteArray := prog_2_method_3_code
def yX0_forgetFirst : MethodName := ⟨RX0, "forgetFirst", "()V"⟩
abbrev cX0_beforeAt : ByteArray := prog_2_method_4_code
def yX0_beforeAt : MethodName := ⟨RX0, "beforeAt", "(I)LDozeLink$Doze;"⟩
abbrev cX0_takeBack : ByteArray := prog_2_method_5_code
def yX0_takeBack : MethodName := ⟨RX0, "takeBack", "(LDozeLink$Doze;)Z"⟩
def RX1 : String := "DozeLink$Doze"
def TX1 : u_T := fun k => match k with
  | 0 => ("DozeLink$Doze", "zero", "LDozeLink$Side;", true)
  | 1 => ("DozeLink$Doze", "one", "LDozeLink$Side;", true)
  | 2 => ("DozeLink$Doze", "mayGo", "Z", false)
  | 3 => ("DozeLink$Doze", "sink", "I", false)
  | 4 => ("DozeLink$Doze", "refresh", "I", false)
  | 5 => ("DozeLink$Doze", "phase", "I", false)
  | 6 => ("DozeLink$Doze", "left", "I", false)
  | 7 => ("DozeLink$Doze", "slept", "I", false)
  | 8 => ("DozeLink$Doze", "clock", "I", false)
  | 9 => ("DozeLink$Doze", "energy", "I", false)
  | 10 => ("DozeLink$Doze", "sent", "I", false)
  | 11 => ("DozeLink$Doze", "delays", "I", false)
  | 12 => ("DozeLink$Doze", "longest", "I", false)
  | _ => ("DozeLink$Doze", "lost", "I", false)
def tyX1 : Nat → FieldType := fun k => match k with
  | 0 => .object "DozeLink$Side"
  | 1 => .object "DozeLink$Side"
  | 2 => .boolean
  | 3 => .int
  | 4 => .int
  | 5 => .int
  | 6 => .int
  | 7 => .int
  | 8 => .int
  | 9 => .int
  | 10 => .int
  | 11 => .int
  | 12 => .int
  | _ => .int
abbrev wsX10 : List Cond := u_ws RX1 TX1 14
theorem nmX1 : ∀ a, a < 14 → ∀ b, b < 14 → a ≠ b → (TX1 a).2.1 ≠ (TX1 b).2.1 := by decide +kernel
theorem tyX1_ok : ∀ k, k < 14 → parseFieldDescriptor (TX1 k).2.2.1 = some (tyX1 k) := by decide +kernel
abbrev cX1_init : ByteArray := prog_3_method_1_code
def yX1_init : MethodName := ⟨RX1, "<init>", "()V"⟩
abbrev cX1_become : ByteArray := prog_3_method_2_code
def yX1_become : MethodName := ⟨RX1, "become", "(LDozeLink$Doze;)V"⟩
abbrev cX1_side : ByteArray := prog_3_method_3_code
def yX1_side : MethodName := ⟨RX1, "side", "(I)LDozeLink$Side;"⟩
abbrev cX1_figure : ByteArray := prog_3_method_4_code
def yX1_figure : MethodName := ⟨RX1, "figure", "(I)I"⟩
abbrev cX1_wakeTime : ByteArray := prog_3_method_5_code
def yX1_wakeTime : MethodName := ⟨RX1, "wakeTime", "()I"⟩
abbrev cX1_price : ByteArray := prog_3_method_6_code
def yX1_price : MethodName := ⟨RX1, "price", "()I"⟩
abbrev cX1_holdsNone : ByteArray := prog_3_method_7_code
def yX1_holdsNone : MethodName := ⟨RX1, "holdsNone", "()Z"⟩
abbrev cX1_isAtRest : ByteArray := prog_3_method_8_code
def yX1_isAtRest : MethodName := ⟨RX1, "isAtRest", "()Z"⟩
abbrev cX1_receive : ByteArray := prog_3_method_9_code
def yX1_receive : MethodName := ⟨RX1, "receive", "(II)Z"⟩
abbrev cX1_retell : ByteArray := prog_3_method_10_code
def yX1_retell : MethodName := ⟨RX1, "retell", "(III)I"⟩
abbrev cX1_elapse : ByteArray := prog_3_method_11_code
def yX1_elapse : MethodName := ⟨RX1, "elapse", "(I)V"⟩
abbrev cX1_settle : ByteArray := prog_3_method_12_code
def yX1_settle : MethodName := ⟨RX1, "settle", "()V"⟩
abbrev cX1_tick : ByteArray := prog_3_method_13_code
def yX1_tick : MethodName := ⟨RX1, "tick", "()V"⟩
abbrev cX1_power : ByteArray := prog_3_method_14_code
def yX1_power : MethodName := ⟨RX1, "power", "()I"⟩
abbrev cX1_send : ByteArray := prog_3_method_15_code
def yX1_send : MethodName := ⟨RX1, "send", "(LDozeLink$Side;LDozeLink$Side;)V"⟩
abbrev cX1_admits : ByteArray := prog_3_method_16_code
def yX1_admits : MethodName := ⟨RX1, "admits", "(I)Z"⟩
abbrev cX1_admitsTicks : ByteArray := prog_3_method_17_code
def yX1_admitsTicks : MethodName := ⟨RX1, "admitsTicks", "(I)Z"⟩
abbrev cX1_admitsCount : ByteArray := prog_3_method_18_code
def yX1_admitsCount : MethodName := ⟨RX1, "admitsCount", "(II)Z"⟩
def RX2 : String := "DozeLink$Script"
def TX2 : u_T := fun k => match k with
  | 0 => ("DozeLink$Script", "start", "LDozeLink$Doze;", true)
  | 1 => ("DozeLink$Script", "events", "[I", true)
  | _ => ("DozeLink$Script", "size", "I", false)
def tyX2 : Nat → FieldType := fun k => match k with
  | 0 => .object "DozeLink$Doze"
  | 1 => .array .int
  | _ => .int
abbrev wsX20 : List Cond := u_ws RX2 TX2 3
theorem nmX2 : ∀ a, a < 3 → ∀ b, b < 3 → a ≠ b → (TX2 a).2.1 ≠ (TX2 b).2.1 := by decide +kernel
theorem tyX2_ok : ∀ k, k < 3 → parseFieldDescriptor (TX2 k).2.2.1 = some (tyX2 k) := by decide +kernel
abbrev cX2_init : ByteArray := prog_4_method_1_code
def yX2_init : MethodName := ⟨RX2, "<init>", "()V"⟩
abbrev cX2_become : ByteArray := prog_4_method_2_code
def yX2_become : MethodName := ⟨RX2, "become", "(LDozeLink$Text;)V"⟩
abbrev cX2_readSide : ByteArray := prog_4_method_3_code
def yX2_readSide : MethodName := ⟨RX2, "readSide", "(LDozeLink$Side;LDozeLink$Text;I)V"⟩
abbrev cX2_isLetter : ByteArray := prog_4_method_4_code
def yX2_isLetter : MethodName := ⟨RX2, "isLetter", "(I)Z"⟩
abbrev cX2_letters : ByteArray := prog_4_method_5_code
def yX2_letters : MethodName := ⟨RX2, "letters", "()I"⟩
abbrev cX2_perform : ByteArray := prog_4_method_6_code
def yX2_perform : MethodName := ⟨RX2, "perform", "(LDozeLink$Doze;I)V"⟩
abbrev cX2_bring : ByteArray := prog_4_method_7_code
def yX2_bring : MethodName := ⟨RX2, "bring", "(LDozeLink$Doze;I)V"⟩
abbrev cX2_performTill : ByteArray := prog_4_method_8_code
def yX2_performTill : MethodName := ⟨RX2, "performTill", "(LDozeLink$Doze;I)V"⟩
def RX3 : String := "DozeLink$Side"
def TX3 : u_T := fun k => match k with
  | 0 => ("DozeLink$Side", "own", "I", false)
  | 1 => ("DozeLink$Side", "enough", "I", false)
  | 2 => ("DozeLink$Side", "age", "I", false)
  | 3 => ("DozeLink$Side", "heard", "I", false)
  | 4 => ("DozeLink$Side", "holding", "I", false)
  | _ => ("DozeLink$Side", "letters", "[I", true)
def tyX3 : Nat → FieldType := fun k => match k with
  | 0 => .int
  | 1 => .int
  | 2 => .int
  | 3 => .int
  | 4 => .int
  | _ => .array .int
abbrev wsX30 : List Cond := u_ws RX3 TX3 6
theorem nmX3 : ∀ a, a < 6 → ∀ b, b < 6 → a ≠ b → (TX3 a).2.1 ≠ (TX3 b).2.1 := by decide +kernel
theorem tyX3_ok : ∀ k, k < 6 → parseFieldDescriptor (TX3 k).2.2.1 = some (tyX3 k) := by decide +kernel
abbrev cX3_init : ByteArray := prog_5_method_1_code
def yX3_init : MethodName := ⟨RX3, "<init>", "()V"⟩
abbrev cX3_become : ByteArray := prog_5_method_2_code
def yX3_become : MethodName := ⟨RX3, "become", "(LDozeLink$Side;)V"⟩
abbrev cX3_isFull : ByteArray := prog_5_method_3_code
def yX3_isFull : MethodName := ⟨RX3, "isFull", "()Z"⟩
abbrev cX3_append : ByteArray := prog_5_method_4_code
def yX3_append : MethodName := ⟨RX3, "append", "(I)Z"⟩
abbrev cX3_letterAt : ByteArray := prog_5_method_5_code
def yX3_letterAt : MethodName := ⟨RX3, "letterAt", "(I)I"⟩
abbrev cX3_dropFirst : ByteArray := prog_5_method_6_code
def yX3_dropFirst : MethodName := ⟨RX3, "dropFirst", "()V"⟩
abbrev cX3_isDue : ByteArray := prog_5_method_7_code
def yX3_isDue : MethodName := ⟨RX3, "isDue", "(I)Z"⟩
def RX4 : String := "DozeLink$Sights"
def TX4 : u_T := fun k => match k with
  | 0 => ("DozeLink$Sights", "times", "[I", true)
  | 1 => ("DozeLink$Sights", "phases", "[I", true)
  | _ => ("DozeLink$Sights", "size", "I", false)
def tyX4 : Nat → FieldType := fun k => match k with
  | 0 => .array .int
  | 1 => .array .int
  | _ => .int
abbrev wsX40 : List Cond := u_ws RX4 TX4 3
theorem nmX4 : ∀ a, a < 3 → ∀ b, b < 3 → a ≠ b → (TX4 a).2.1 ≠ (TX4 b).2.1 := by decide +kernel
theorem tyX4_ok : ∀ k, k < 3 → parseFieldDescriptor (TX4 k).2.2.1 = some (tyX4 k) := by decide +kernel
abbrev cX4_init : ByteArray := prog_6_method_1_code
def yX4_init : MethodName := ⟨RX4, "<init>", "()V"⟩
abbrev cX4_add : ByteArray := prog_6_method_2_code
def yX4_add : MethodName := ⟨RX4, "add", "(II)Z"⟩
abbrev cX4_timeAt : ByteArray := prog_6_method_3_code
def yX4_timeAt : MethodName := ⟨RX4, "timeAt", "(I)I"⟩
abbrev cX4_phaseAt : ByteArray := prog_6_method_4_code
def yX4_phaseAt : MethodName := ⟨RX4, "phaseAt", "(I)I"⟩
def RX5 : String := "DozeLink$Slot"
def TX5 : u_T := fun k => match k with
  | 0 => ("DozeLink$Slot", "kept", "LDozeLink$Doze;", true)
  | _ => ("DozeLink$Slot", "filled", "Z", false)
def tyX5 : Nat → FieldType := fun k => match k with
  | 0 => .object "DozeLink$Doze"
  | _ => .boolean
abbrev wsX50 : List Cond := u_ws RX5 TX5 2
theorem nmX5 : ∀ a, a < 2 → ∀ b, b < 2 → a ≠ b → (TX5 a).2.1 ≠ (TX5 b).2.1 := by decide +kernel
theorem tyX5_ok : ∀ k, k < 2 → parseFieldDescriptor (TX5 k).2.2.1 = some (tyX5 k) := by decide +kernel
abbrev cX5_init : ByteArray := prog_7_method_1_code
def yX5_init : MethodName := ⟨RX5, "<init>", "()V"⟩
def RX6 : String := "DozeLink$Text"
def TX6 : u_T := fun k => match k with
  | 0 => ("DozeLink$Text", "signs", "[I", true)
  | _ => ("DozeLink$Text", "size", "I", false)
def tyX6 : Nat → FieldType := fun k => match k with
  | 0 => .array .int
  | _ => .int
abbrev wsX60 : List Cond := u_ws RX6 TX6 2
theorem nmX6 : ∀ a, a < 2 → ∀ b, b < 2 → a ≠ b → (TX6 a).2.1 ≠ (TX6 b).2.1 := by decide +kernel
theorem tyX6_ok : ∀ k, k < 2 → parseFieldDescriptor (TX6 k).2.2.1 = some (tyX6 k) := by decide +kernel
abbrev cX6_init : ByteArray := prog_8_method_1_code
def yX6_init : MethodName := ⟨RX6, "<init>", "()V"⟩
abbrev cX6_append : ByteArray := prog_8_method_2_code
def yX6_append : MethodName := ⟨RX6, "append", "(I)Z"⟩
abbrev cX6_signAt : ByteArray := prog_8_method_3_code
def yX6_signAt : MethodName := ⟨RX6, "signAt", "(I)I"⟩
abbrev cX6_figureAt : ByteArray := prog_8_method_4_code
def yX6_figureAt : MethodName := ⟨RX6, "figureAt", "(I)I"⟩
abbrev cX6_faultPlace : ByteArray := prog_8_method_5_code
def yX6_faultPlace : MethodName := ⟨RX6, "faultPlace", "()I"⟩
abbrev cX6_mayStand : ByteArray := prog_8_method_6_code
def yX6_mayStand : MethodName := ⟨RX6, "mayStand", "(II)Z"⟩
def RX7 : String := "DozeLink"
def TX7 : u_T := fun k => match k with
  | 0 => ("DozeLink", "text", "LDozeLink$Text;", true)
  | 1 => ("DozeLink", "script", "LDozeLink$Script;", true)
  | 2 => ("DozeLink", "now", "LDozeLink$Doze;", true)
  | 3 => ("DozeLink", "trial", "LDozeLink$Doze;", true)
  | 4 => ("DozeLink", "acts", "LDozeLink$Acts;", true)
  | 5 => ("DozeLink", "sights", "LDozeLink$Sights;", true)
  | 6 => ("DozeLink", "firstSlot", "LDozeLink$Slot;", true)
  | 7 => ("DozeLink", "secondSlot", "LDozeLink$Slot;", true)
  | _ => ("DozeLink", "chance", "J", false)
def tyX7 : Nat → FieldType := fun k => match k with
  | 0 => .object "DozeLink$Text"
  | 1 => .object "DozeLink$Script"
  | 2 => .object "DozeLink$Doze"
  | 3 => .object "DozeLink$Doze"
  | 4 => .object "DozeLink$Acts"
  | 5 => .object "DozeLink$Sights"
  | 6 => .object "DozeLink$Slot"
  | 7 => .object "DozeLink$Slot"
  | _ => .long
abbrev wsX70 : List Cond := u_ws RX7 TX7 9
theorem nmX7 : ∀ a, a < 9 → ∀ b, b < 9 → a ≠ b → (TX7 a).2.1 ≠ (TX7 b).2.1 := by decide +kernel
theorem tyX7_ok : ∀ k, k < 9 → parseFieldDescriptor (TX7 k).2.2.1 = some (tyX7 k) := by decide +kernel
abbrev cX7_init : ByteArray := prog_1_method_1_code
def yX7_init : MethodName := ⟨RX7, "<init>", "()V"⟩
abbrev cX7_write : ByteArray := prog_1_method_2_code
def yX7_write : MethodName := ⟨RX7, "write", "(I)I"⟩
abbrev cX7_wipe : ByteArray := prog_1_method_3_code
def yX7_wipe : MethodName := ⟨RX7, "wipe", "()I"⟩
abbrev cX7_fault : ByteArray := prog_1_method_4_code
def yX7_fault : MethodName := ⟨RX7, "fault", "()I"⟩
abbrev cX7_link : ByteArray := prog_1_method_5_code
def yX7_link : MethodName := ⟨RX7, "link", "()I"⟩
abbrev cX7_ask : ByteArray := prog_1_method_6_code
def yX7_ask : MethodName := ⟨RX7, "ask", "(I)I"⟩
abbrev cX7_end : ByteArray := prog_1_method_7_code
def yX7_end : MethodName := ⟨RX7, "end", "(II)I"⟩
abbrev cX7_held : ByteArray := prog_1_method_8_code
def yX7_held : MethodName := ⟨RX7, "held", "(II)I"⟩
abbrev cX7_come : ByteArray := prog_1_method_9_code
def yX7_come : MethodName := ⟨RX7, "come", "(I)I"⟩
abbrev cX7_pass : ByteArray := prog_1_method_10_code
def yX7_pass : MethodName := ⟨RX7, "pass", "(I)I"⟩
abbrev cX7_tell : ByteArray := prog_1_method_11_code
def yX7_tell : MethodName := ⟨RX7, "tell", "(III)I"⟩
abbrev cX7_undo : ByteArray := prog_1_method_12_code
def yX7_undo : MethodName := ⟨RX7, "undo", "()I"⟩
abbrev cX7_ahead : ByteArray := prog_1_method_13_code
def yX7_ahead : MethodName := ⟨RX7, "ahead", "(II)I"⟩
abbrev cX7_play : ByteArray := prog_1_method_14_code
def yX7_play : MethodName := ⟨RX7, "play", "(I)I"⟩
abbrev cX7_judge : ByteArray := prog_1_method_15_code
def yX7_judge : MethodName := ⟨RX7, "judge", "(IJ)I"⟩
abbrev cX7_see : ByteArray := prog_1_method_16_code
def yX7_see : MethodName := ⟨RX7, "see", "(II)I"⟩
abbrev cX7_unsee : ByteArray := prog_1_method_17_code
def yX7_unsee : MethodName := ⟨RX7, "unsee", "()I"⟩
abbrev cX7_which : ByteArray := prog_1_method_18_code
def yX7_which : MethodName := ⟨RX7, "which", "()I"⟩
abbrev cX7_share : ByteArray := prog_1_method_19_code
def yX7_share : MethodName := ⟨RX7, "share", "(IZ)I"⟩
abbrev cX7_luck : ByteArray := prog_1_method_20_code
def yX7_luck : MethodName := ⟨RX7, "luck", "(IIIZ)I"⟩
abbrev cX7_seed : ByteArray := prog_1_method_21_code
def yX7_seed : MethodName := ⟨RX7, "seed", "(J)J"⟩
abbrev cX7_drawn : ByteArray := prog_1_method_22_code
def yX7_drawn : MethodName := ⟨RX7, "drawn", "(I)I"⟩
abbrev cX7_keep : ByteArray := prog_1_method_23_code
def yX7_keep : MethodName := ⟨RX7, "keep", "(I)I"⟩
abbrev cX7_again : ByteArray := prog_1_method_24_code
def yX7_again : MethodName := ⟨RX7, "again", "(I)I"⟩
abbrev cX7_count : ByteArray := prog_1_method_25_code
def yX7_count : MethodName := ⟨RX7, "count", "(I)I"⟩
abbrev cX7_isWithin : ByteArray := prog_1_method_26_code
def yX7_isWithin : MethodName := ⟨RX7, "isWithin", "(III)Z"⟩
abbrev cX7_isFigure : ByteArray := prog_1_method_27_code
def yX7_isFigure : MethodName := ⟨RX7, "isFigure", "(I)Z"⟩
abbrev cX7_isEnd : ByteArray := prog_1_method_28_code
def yX7_isEnd : MethodName := ⟨RX7, "isEnd", "(I)Z"⟩
abbrev cX7_isSlot : ByteArray := prog_1_method_29_code
def yX7_isSlot : MethodName := ⟨RX7, "isSlot", "(I)Z"⟩
abbrev cX7_slotOf : ByteArray := prog_1_method_30_code
def yX7_slotOf : MethodName := ⟨RX7, "slotOf", "(I)LDozeLink$Slot;"⟩
abbrev cX7_ticksTillQuiet : ByteArray := prog_1_method_31_code
def yX7_ticksTillQuiet : MethodName := ⟨RX7, "ticksTillQuiet", "()I"⟩
abbrev cX7_bestCount : ByteArray := prog_1_method_32_code
def yX7_bestCount : MethodName := ⟨RX7, "bestCount", "(I)I"⟩
abbrev cX7_explainsAll : ByteArray := prog_1_method_33_code
def yX7_explainsAll : MethodName := ⟨RX7, "explainsAll", "(I)Z"⟩
abbrev cX7_energyOf : ByteArray := prog_1_method_34_code
def yX7_energyOf : MethodName := ⟨RX7, "energyOf", "(II)I"⟩
abbrev cX7_ordersBehind : ByteArray := prog_1_method_35_code
def yX7_ordersBehind : MethodName := ⟨RX7, "ordersBehind", "(I)I"⟩
abbrev cX7_weightOf : ByteArray := prog_1_method_36_code
def yX7_weightOf : MethodName := ⟨RX7, "weightOf", "(III)I"⟩
abbrev cX7_fraction : ByteArray := prog_1_method_37_code
def yX7_fraction : MethodName := ⟨RX7, "fraction", "(IIZ)I"⟩
abbrev cX7_commonDivisor : ByteArray := prog_1_method_38_code
def yX7_commonDivisor : MethodName := ⟨RX7, "commonDivisor", "(II)I"⟩
def RX8 : String := "DozeLinkModel"
def TX8 : u_T := fun k => match k with
  | 0 => ("DozeLinkModel", "thrown", "I", false)
  | 1 => ("DozeLinkModel", "text", "[I", true)
  | 2 => ("DozeLinkModel", "textSize", "I", false)
  | 3 => ("DozeLinkModel", "place", "I", false)
  | 4 => ("DozeLinkModel", "readPage", "[I", true)
  | 5 => ("DozeLinkModel", "readEvents", "[I", true)
  | 6 => ("DozeLinkModel", "readMany", "I", false)
  | 7 => ("DozeLinkModel", "page", "[I", true)
  | 8 => ("DozeLinkModel", "start", "[I", true)
  | 9 => ("DozeLinkModel", "events", "[I", true)
  | 10 => ("DozeLinkModel", "many", "I", false)
  | 11 => ("DozeLinkModel", "trial", "[I", true)
  | 12 => ("DozeLinkModel", "book", "[I", true)
  | 13 => ("DozeLinkModel", "doings", "I", false)
  | 14 => ("DozeLinkModel", "kept", "[I", true)
  | 15 => ("DozeLinkModel", "isKept", "[Z", true)
  | 16 => ("DozeLinkModel", "seen", "I", false)
  | 17 => ("DozeLinkModel", "seenClock", "[I", true)
  | 18 => ("DozeLinkModel", "seenLink", "[I", true)
  | 19 => ("DozeLinkModel", "seed", "J", false)
  | 20 => ("DozeLinkModel", "was", "[I", true)
  | _ => ("DozeLinkModel", "savers", "I", false)
def tyX8 : Nat → FieldType := fun k => match k with
  | 0 => .int
  | 1 => .array .int
  | 2 => .int
  | 3 => .int
  | 4 => .array .int
  | 5 => .array .int
  | 6 => .int
  | 7 => .array .int
  | 8 => .array .int
  | 9 => .array .int
  | 10 => .int
  | 11 => .array .int
  | 12 => .array .int
  | 13 => .int
  | 14 => .array .int
  | 15 => .array .boolean
  | 16 => .int
  | 17 => .array .int
  | 18 => .array .int
  | 19 => .long
  | 20 => .array .int
  | _ => .int
abbrev wsX80 : List Cond := u_ws RX8 TX8 22
theorem nmX8 : ∀ a, a < 22 → ∀ b, b < 22 → a ≠ b → (TX8 a).2.1 ≠ (TX8 b).2.1 := by decide +kernel
theorem tyX8_ok : ∀ k, k < 22 → parseFieldDescriptor (TX8 k).2.2.1 = some (tyX8 k) := by decide +kernel
abbrev cX8_init : ByteArray := prog_10_method_1_code
def yX8_init : MethodName := ⟨RX8, "<init>", "()V"⟩
abbrev cX8_in : ByteArray := prog_10_method_3_code
def yX8_in : MethodName := ⟨RX8, "in", "(JJJ)Z"⟩
abbrev cX8_has : ByteArray := prog_10_method_4_code
def yX8_has : MethodName := ⟨RX8, "has", "(II)Z"⟩
abbrev cX8_ones : ByteArray := prog_10_method_5_code
def yX8_ones : MethodName := ⟨RX8, "ones", "(I)I"⟩
abbrev cX8_power : ByteArray := prog_10_method_6_code
def yX8_power : MethodName := ⟨RX8, "power", "(II)I"⟩
abbrev cX8_layFirst : ByteArray := prog_10_method_7_code
def yX8_layFirst : MethodName := ⟨RX8, "layFirst", "([I)V"⟩
abbrev cX8_lay : ByteArray := prog_10_method_8_code
def yX8_lay : MethodName := ⟨RX8, "lay", "([I[I)V"⟩
abbrev cX8_at : ByteArray := prog_10_method_9_code
def yX8_at : MethodName := ⟨RX8, "at", "(I)I"⟩
abbrev cX8_noEnd : ByteArray := prog_10_method_10_code
def yX8_noEnd : MethodName := ⟨RX8, "noEnd", "(I)Z"⟩
abbrev cX8_isFull : ByteArray := prog_10_method_11_code
def yX8_isFull : MethodName := ⟨RX8, "isFull", "([II)Z"⟩
abbrev cX8_comeOn : ByteArray := prog_10_method_12_code
def yX8_comeOn : MethodName := ⟨RX8, "comeOn", "([III)V"⟩
abbrev cX8_isDue : ByteArray := prog_10_method_13_code
def yX8_isDue : MethodName := ⟨RX8, "isDue", "([II)Z"⟩
abbrev cX8_wakeTime : ByteArray := prog_10_method_14_code
def yX8_wakeTime : MethodName := ⟨RX8, "wakeTime", "([I)I"⟩
abbrev cX8_isEmpty : ByteArray := prog_10_method_15_code
def yX8_isEmpty : MethodName := ⟨RX8, "isEmpty", "([I)Z"⟩
abbrev cX8_sendOn : ByteArray := prog_10_method_16_code
def yX8_sendOn : MethodName := ⟨RX8, "sendOn", "([II)V"⟩
abbrev cX8_tick : ByteArray := prog_10_method_17_code
def yX8_tick : MethodName := ⟨RX8, "tick", "([I)V"⟩
abbrev cX8_isQuiet : ByteArray := prog_10_method_18_code
def yX8_isQuiet : MethodName := ⟨RX8, "isQuiet", "([I)Z"⟩
abbrev cX8_quiet : ByteArray := prog_10_method_19_code
def yX8_quiet : MethodName := ⟨RX8, "quiet", "([I)I"⟩
abbrev cX8_write : ByteArray := prog_10_method_20_code
def yX8_write : MethodName := ⟨RX8, "write", "(I)I"⟩
abbrev cX8_wipe : ByteArray := prog_10_method_21_code
def yX8_wipe : MethodName := ⟨RX8, "wipe", "()I"⟩
abbrev cX8_figure : ByteArray := prog_10_method_22_code
def yX8_figure : MethodName := ⟨RX8, "figure", "(I)I"⟩
abbrev cX8_readLink : ByteArray := prog_10_method_23_code
def yX8_readLink : MethodName := ⟨RX8, "readLink", "()I"⟩
abbrev cX8_fault : ByteArray := prog_10_method_24_code
def yX8_fault : MethodName := ⟨RX8, "fault", "()I"⟩
abbrev cX8_doEvent : ByteArray := prog_10_method_25_code
def yX8_doEvent : MethodName := ⟨RX8, "doEvent", "([II)V"⟩
abbrev cX8_link : ByteArray := prog_10_method_26_code
def yX8_link : MethodName := ⟨RX8, "link", "()I"⟩
abbrev cX8_told : ByteArray := prog_10_method_27_code
def yX8_told : MethodName := ⟨RX8, "told", "([II)I"⟩
abbrev cX8_ask : ByteArray := prog_10_method_28_code
def yX8_ask : MethodName := ⟨RX8, "ask", "(I)I"⟩
abbrev cX8_best : ByteArray := prog_10_method_29_code
def yX8_best : MethodName := ⟨RX8, "best", "(I)I"⟩
abbrev cX8_end : ByteArray := prog_10_method_30_code
def yX8_end : MethodName := ⟨RX8, "end", "(II)I"⟩
abbrev cX8_held : ByteArray := prog_10_method_31_code
def yX8_held : MethodName := ⟨RX8, "held", "(II)I"⟩
abbrev cX8_note : ByteArray := prog_10_method_32_code
def yX8_note : MethodName := ⟨RX8, "note", "()V"⟩
abbrev cX8_come : ByteArray := prog_10_method_33_code
def yX8_come : MethodName := ⟨RX8, "come", "(I)I"⟩
abbrev cX8_pass : ByteArray := prog_10_method_34_code
def yX8_pass : MethodName := ⟨RX8, "pass", "(I)I"⟩
abbrev cX8_tell : ByteArray := prog_10_method_35_code
def yX8_tell : MethodName := ⟨RX8, "tell", "(III)I"⟩
abbrev cX8_undo : ByteArray := prog_10_method_36_code
def yX8_undo : MethodName := ⟨RX8, "undo", "()I"⟩
abbrev cX8_ahead : ByteArray := prog_10_method_37_code
def yX8_ahead : MethodName := ⟨RX8, "ahead", "(II)I"⟩
abbrev cX8_goOver : ByteArray := prog_10_method_38_code
def yX8_goOver : MethodName := ⟨RX8, "goOver", "(II)V"⟩
abbrev cX8_pricePlay : ByteArray := prog_10_method_39_code
def yX8_pricePlay : MethodName := ⟨RX8, "pricePlay", "()I"⟩
abbrev cX8_letters : ByteArray := prog_10_method_40_code
def yX8_letters : MethodName := ⟨RX8, "letters", "()I"⟩
abbrev cX8_play : ByteArray := prog_10_method_41_code
def yX8_play : MethodName := ⟨RX8, "play", "(I)I"⟩
abbrev cX8_does : ByteArray := prog_10_method_42_code
def yX8_does : MethodName := ⟨RX8, "does", "(III)Z"⟩
abbrev cX8_longPower : ByteArray := prog_10_method_43_code
def yX8_longPower : MethodName := ⟨RX8, "longPower", "(JI)J"⟩
abbrev cX8_judge : ByteArray := prog_10_method_44_code
def yX8_judge : MethodName := ⟨RX8, "judge", "(IJ)I"⟩
abbrev cX8_see : ByteArray := prog_10_method_45_code
def yX8_see : MethodName := ⟨RX8, "see", "(II)I"⟩
abbrev cX8_unsee : ByteArray := prog_10_method_46_code
def yX8_unsee : MethodName := ⟨RX8, "unsee", "()I"⟩
abbrev cX8_tickNoted : ByteArray := prog_10_method_47_code
def yX8_tickNoted : MethodName := ⟨RX8, "tickNoted", "()V"⟩
abbrev cX8_layWas : ByteArray := prog_10_method_48_code
def yX8_layWas : MethodName := ⟨RX8, "layWas", "(I)V"⟩
abbrev cX8_which : ByteArray := prog_10_method_49_code
def yX8_which : MethodName := ⟨RX8, "which", "()I"⟩
abbrev cX8_divisor : ByteArray := prog_10_method_50_code
def yX8_divisor : MethodName := ⟨RX8, "divisor", "(II)I"⟩
abbrev cX8_fraction : ByteArray := prog_10_method_51_code
def yX8_fraction : MethodName := ⟨RX8, "fraction", "(IIZ)I"⟩
abbrev cX8_factorial : ByteArray := prog_10_method_52_code
def yX8_factorial : MethodName := ⟨RX8, "factorial", "(I)I"⟩
abbrev cX8_energyBy : ByteArray := prog_10_method_53_code
def yX8_energyBy : MethodName := ⟨RX8, "energyBy", "(II)I"⟩
abbrev cX8_share : ByteArray := prog_10_method_54_code
def yX8_share : MethodName := ⟨RX8, "share", "(IZ)I"⟩
abbrev cX8_luck : ByteArray := prog_10_method_55_code
def yX8_luck : MethodName := ⟨RX8, "luck", "(IIIZ)I"⟩
abbrev cX8_seed : ByteArray := prog_10_method_56_code
def yX8_seed : MethodName := ⟨RX8, "seed", "(J)J"⟩
abbrev cX8_drawn : ByteArray := prog_10_method_57_code
def yX8_drawn : MethodName := ⟨RX8, "drawn", "(I)I"⟩
abbrev cX8_keep : ByteArray := prog_10_method_58_code
def yX8_keep : MethodName := ⟨RX8, "keep", "(I)I"⟩
abbrev cX8_again : ByteArray := prog_10_method_59_code
def yX8_again : MethodName := ⟨RX8, "again", "(I)I"⟩
abbrev cX8_count : ByteArray := prog_10_method_60_code
def yX8_count : MethodName := ⟨RX8, "count", "(I)I"⟩
def RJ6 : String := "java/lang/Integer"
def TJ6 : u_T := fun k => match k with
  | _ => ("", "", "", false)
def tyJ6 : Nat → FieldType := fun k => match k with
  | _ => .int
theorem nmJ6 : ∀ a, a < 0 → ∀ b, b < 0 → a ≠ b → (TJ6 a).2.1 ≠ (TJ6 b).2.1 := by decide +kernel
theorem tyJ6_ok : ∀ k, k < 0 → parseFieldDescriptor (TJ6 k).2.2.1 = some (tyJ6 k) := by decide +kernel
abbrev cJ6_bitCount_0f7a4 : ByteArray := prog_11_method_49_code
def yJ6_bitCount_0f7a4 : MethodName := ⟨RJ6, "bitCount", "(I)I"⟩
def RJ9 : String := "java/lang/Math"
def TJ9 : u_T := fun k => match k with
  | _ => ("", "", "", false)
def tyJ9 : Nat → FieldType := fun k => match k with
  | _ => .int
theorem nmJ9 : ∀ a, a < 0 → ∀ b, b < 0 → a ≠ b → (TJ9 a).2.1 ≠ (TJ9 b).2.1 := by decide +kernel
theorem tyJ9_ok : ∀ k, k < 0 → parseFieldDescriptor (TJ9 k).2.2.1 = some (tyJ9 k) := by decide +kernel
abbrev cJ9_abs_0f7a4 : ByteArray := prog_12_method_59_code
def yJ9_abs_0f7a4 : MethodName := ⟨RJ9, "abs", "(I)I"⟩
abbrev cJ9_max_7cf53 : ByteArray := prog_12_method_65_code
def yJ9_max_7cf53 : MethodName := ⟨RJ9, "max", "(II)I"⟩
abbrev cJ9_min_7cf53 : ByteArray := prog_12_method_69_code
def yJ9_min_7cf53 : MethodName := ⟨RJ9, "min", "(II)I"⟩
def RL : String := "DozeLinkLaw"
abbrev cL_law : ByteArray := code
def yL_law : MethodName := ⟨RL, "law", "([I)Z"⟩
abbrev vwCl : List vw_C := [(RX0, TX0, 2), (RX1, TX1, 14), (RX2, TX2, 3), (RX3, TX3, 6), (RX4, TX4, 3), (RX5, TX5, 2), (RX6, TX6, 2), (RX7, TX7, 9), (RX8, TX8, 22)]
end
section
theorem dX0_init_0 : decode cX0_init 0 = .ok (.aload_n 0, 1) := by decide +kernel
theorem dX0_init_1 : decode cX0_init 1 = .ok (.invokespecial 3, 3) := by decide +kernel
theorem dX0_init_4 : decode cX0_init 4 = .ok (.aload_n 0, 1) := by decide +kernel
theorem dX0_init_5 : decode cX0_init 5 = .ok (.bipush 14, 2) := by decide +kernel
theorem dX0_init_7 : decode cX0_init 7 = .ok (.anewarray 9, 3) := by decide +kernel
theorem dX0_init_10 : decode cX0_init 10 = .ok (.putfield 11, 3) := by decide +kernel
theorem dX0_init_13 : decode cX0_init 13 = .ok (.iconst 0, 1) := by decide +kernel
theorem dX0_init_14 : decode cX0_init 14 = .ok (.istore_n 1, 1) := by decide +kernel
theorem dX0_init_15 : decode cX0_init 15 = .ok (.iload_n 1, 1) := by decide +kernel
theorem dX0_init_16 : decode cX0_init 16 = .ok (.aload_n 0, 1) := by decide +kernel
theorem dX0_init_17 : decode cX0_init 17 = .ok (.getfield 11, 3) := by decide +kernel
theorem dX0_init_20 : decode cX0_init 20 = .ok (.arraylength, 1) := by decide +kernel
theorem dX0_init_21 : decode cX0_init 21 = .ok (.if_icmp .ge 22, 3) := by decide +kernel
theorem dX0_init_24 : decode cX0_init 24 = .ok (.aload_n 0, 1) := by decide +kernel
theorem dX0_init_25 : decode cX0_init 25 = .ok (.getfield 11, 3) := by decide +kernel
theorem dX0_init_28 : decode cX0_init 28 = .ok (.iload_n 1, 1) := by decide +kernel
theorem dX0_init_29 : decode cX0_init 29 = .ok (.new 9, 3) := by decide +kernel
theorem dX0_init_32 : decode cX0_init 32 = .ok (.dup, 1) := by decide +kernel
theorem dX0_init_33 : decode cX0_init 33 = .ok (.invokespecial 17, 3) := by decide +kernel
theorem dX0_init_36 : decode cX0_init 36 = .ok (.aastore, 1) := by decide +kernel
theorem dX0_init_37 : decode cX0_init 37 = .ok (.iinc 1 1, 3) := by decide +kernel
theorem dX0_init_40 : decode cX0_init 40 = .ok (.goto (-25), 3) := by decide +kernel
theorem dX0_init_43 : decode cX0_init 43 = .ok (.aload_n 0, 1) := by decide +kernel
theorem dX0_init_44 : decode cX0_init 44 = .ok (.iconst 0, 1) := by decide +kernel
theorem dX0_init_45 : decode cX0_init 45 = .ok (.putfield 18, 3) := by decide +kernel
theorem dX0_init_48 : decode cX0_init 48 = .ok (.return_, 1) := by decide +kernel
theorem dX0_add_0 : decode cX0_add 0 = .ok (.aload_n 0, 1) := by decide +kernel
theorem dX0_add_1 : decode cX0_add 1 = .ok (.getfield 18, 3) := by decide +kernel
theorem dX0_add_4 : decode cX0_add 4 = .ok (.aload_n 0, 1) := by decide +kernel
theorem dX0_add_5 : decode cX0_add 5 = .ok (.getfield 11, 3) := by decide +kernel
theorem dX0_add_8 : decode cX0_add 8 = .ok (.arraylength, 1) := by decide +kernel
theorem dX0_add_9 : decode cX0_add 9 = .ok (.if_icmp .lt 7, 3) := by decide +kernel
theorem dX0_add_12 : decode cX0_add 12 = .ok (.aload_n 0, 1) := by decide +kernel
theorem dX0_add_13 : decode cX0_add 13 = .ok (.invokevirtual 22, 3) := by decide +kernel
theorem dX0_add_16 : decode cX0_add 16 = .ok (.aload_n 0, 1) := by decide +kernel
theorem dX0_add_17 : decode cX0_add 17 = .ok (.aload_n 0, 1) := by decide +kernel
theorem dX0_add_18 : decode cX0_add 18 = .ok (.getfield 18, 3) := by decide +kernel
theorem dX0_add_21 : decode cX0_add 21 = .ok (.invokevirtual 25, 3) := by decide +kernel
theorem dX0_add_24 : decode cX0_add 24 = .ok (.astore_n 2, 1) := by decide +kernel
theorem dX0_add_25 : decode cX0_add 25 = .ok (.aload_n 2, 1) := by decide +kernel
theorem dX0_add_26 : decode cX0_add 26 = .ok (.ifnull 18, 3) := by decide +kernel
theorem dX0_add_29 : decode cX0_add 29 = .ok (.aload_n 2, 1) := by decide +kernel
theorem dX0_add_30 : decode cX0_add 30 = .ok (.aload_n 1, 1) := by decide +kernel
theorem dX0_add_31 : decode cX0_add 31 = .ok (.invokevirtual 29, 3) := by decide +kernel
theorem dX0_add_34 : decode cX0_add 34 = .ok (.aload_n 0, 1) := by decide +kernel
theorem dX0_add_35 : decode cX0_add 35 = .ok (.dup, 1) := by decide +kernel
theorem dX0_add_36 : decode cX0_add 36 = .ok (.getfield 18, 3) := by decide +kernel
theorem dX0_add_39 : decode cX0_add 39 = .ok (.iconst 1, 1) := by decide +kernel
theorem dX0_add_40 : decode cX0_add 40 = .ok (.iadd, 1) := by decide +kernel
theorem dX0_add_41 : decode cX0_add 41 = .ok (.putfield 18, 3) := by decide +kernel
theorem dX0_add_44 : decode cX0_add 44 = .ok (.return_, 1) := by decide +kernel
theorem dX0_forgetFirst_0 : decode cX0_forgetFirst 0 = .ok (.aload_n 0, 1) := by decide +kernel
theorem dX0_forgetFirst_1 : decode cX0_forgetFirst 1 = .ok (.iconst 0, 1) := by decide +kernel
theorem dX0_forgetFirst_2 : decode cX0_forgetFirst 2 = .ok (.invokevirtual 25, 3) := by decide +kernel
theorem dX0_forgetFirst_5 : decode cX0_forgetFirst 5 = .ok (.astore_n 1, 1) := by decide +kernel
theorem dX0_forgetFirst_6 : decode cX0_forgetFirst 6 = .ok (.aload_n 0, 1) := by decide +kernel
theorem dX0_forgetFirst_7 : decode cX0_forgetFirst 7 = .ok (.getfield 11, 3) := by decide +kernel
theorem dX0_forgetFirst_10 : decode cX0_forgetFirst 10 = .ok (.arraylength, 1) := by decide +kernel
theorem dX0_forgetFirst_11 : decode cX0_forgetFirst 11 = .ok (.iconst 1, 1) := by decide +kernel
theorem dX0_forgetFirst_12 : decode cX0_forgetFirst 12 = .ok (.isub, 1) := by decide +kernel
theorem dX0_forgetFirst_13 : decode cX0_forgetFirst 13 = .ok (.istore_n 2, 1) := by decide +kernel
theorem dX0_forgetFirst_14 : decode cX0_forgetFirst 14 = .ok (.iconst 0, 1) := by decide +kernel
theorem dX0_forgetFirst_15 : decode cX0_forgetFirst 15 = .ok (.istore_n 3, 1) := by decide +kernel
theorem dX0_forgetFirst_16 : decode cX0_forgetFirst 16 = .ok (.iload_n 3, 1) := by decide +kernel
theorem dX0_forgetFirst_17 : decode cX0_forgetFirst 17 = .ok (.iload_n 2, 1) := by decide +kernel
theorem dX0_forgetFirst_18 : decode cX0_forgetFirst 18 = .ok (.if_icmp .ge 23, 3) := by decide +kernel
theorem dX0_forgetFirst_21 : decode cX0_forgetFirst 21 = .ok (.aload_n 0, 1) := by decide +kernel
theorem dX0_forgetFirst_22 : decode cX0_forgetFirst 22 = .ok (.getfield 11, 3) := by decide +kernel
theorem dX0_forgetFirst_25 : decode cX0_forgetFirst 25 = .ok (.iload_n 3, 1) := by decide +kernel
theorem dX0_forgetFirst_26 : decode cX0_forgetFirst 26 = .ok (.aload_n 0, 1) := by decide +kernel
theorem dX0_forgetFirst_27 : decode cX0_forgetFirst 27 = .ok (.getfield 11, 3) := by decide +kernel
theorem dX0_forgetFirst_30 : decode cX0_forgetFirst 30 = .ok (.iload_n 3, 1) := by decide +kernel
theorem dX0_forgetFirst_31 : decode cX0_forgetFirst 31 = .ok (.iconst 1, 1) := by decide +kernel
theorem dX0_forgetFirst_32 : decode cX0_forgetFirst 32 = .ok (.iadd, 1) := by decide +kernel
theorem dX0_forgetFirst_33 : decode cX0_forgetFirst 33 = .ok (.aaload, 1) := by decide +kernel
theorem dX0_forgetFirst_34 : decode cX0_forgetFirst 34 = .ok (.aastore, 1) := by decide +kernel
theorem dX0_forgetFirst_35 : decode cX0_forgetFirst 35 = .ok (.iinc 3 1, 3) := by decide +kernel
theorem dX0_forgetFirst_38 : decode cX0_forgetFirst 38 = .ok (.goto (-22), 3) := by decide +kernel
theorem dX0_forgetFirst_41 : decode cX0_forgetFirst 41 = .ok (.iload_n 2, 1) := by decide +kernel
theorem dX0_forgetFirst_42 : decode cX0_forgetFirst 42 = .ok (.ifCond .lt 15, 3) := by decide +kernel
theorem dX0_forgetFirst_45 : decode cX0_forgetFirst 45 = .ok (.aload_n 0, 1) := by decide +kernel
theorem dX0_forgetFirst_46 : decode cX0_forgetFirst 46 = .ok (.getfield 11, 3) := by decide +kernel
theorem dX0_forgetFirst_49 : decode cX0_forgetFirst 49 = .ok (.iload_n 2, 1) := by decide +kernel
theorem dX0_forgetFirst_50 : decode cX0_forgetFirst 50 = .ok (.aload_n 1, 1) := by decide +kernel
theorem dX0_forgetFirst_51 : decode cX0_forgetFirst 51 = .ok (.aastore, 1) := by decide +kernel
theorem dX0_forgetFirst_52 : decode cX0_forgetFirst 52 = .ok (.aload_n 0, 1) := by decide +kernel
theorem dX0_forgetFirst_53 : decode cX0_forgetFirst 53 = .ok (.iload_n 2, 1) := by decide +kernel
theorem dX0_forgetFirst_54 : decode cX0_forgetFirst 54 = .ok (.putfield 18, 3) := by decide +kernel
theorem dX0_forgetFirst_57 : decode cX0_forgetFirst 57 = .ok (.return_, 1) := by decide +kernel
theorem dX0_beforeAt_0 : decode cX0_beforeAt 0 = .ok (.iload_n 1, 1) := by decide +kernel
theorem dX0_beforeAt_1 : decode cX0_beforeAt 1 = .ok (.ifCond .lt 21, 3) := by decide +kernel
theorem dX0_beforeAt_4 : decode cX0_beforeAt 4 = .ok (.iload_n 1, 1) := by decide +kernel
theorem dX0_beforeAt_5 : decode cX0_beforeAt 5 = .ok (.aload_n 0, 1) := by decide +kernel
theorem dX0_beforeAt_6 : decode cX0_beforeAt 6 = .ok (.getfield 11, 3) := by decide +kernel
theorem dX0_beforeAt_9 : decode cX0_beforeAt 9 = .ok (.arraylength, 1) := by decide +kernel
theorem dX0_beforeAt_10 : decode cX0_beforeAt 10 = .ok (.if_icmp .ge 12, 3) := by decide +kernel
theorem dX0_beforeAt_13 : decode cX0_beforeAt 13 = .ok (.aload_n 0, 1) := by decide +kernel
theorem dX0_beforeAt_14 : decode cX0_beforeAt 14 = .ok (.getfield 11, 3) := by decide +kernel
theorem dX0_beforeAt_17 : decode cX0_beforeAt 17 = .ok (.iload_n 1, 1) := by decide +kernel
theorem dX0_beforeAt_18 : decode cX0_beforeAt 18 = .ok (.aaload, 1) := by decide +kernel
theorem dX0_beforeAt_19 : decode cX0_beforeAt 19 = .ok (.goto 4, 3) := by decide +kernel
theorem dX0_beforeAt_22 : decode cX0_beforeAt 22 = .ok (.aconst_null, 1) := by decide +kernel
theorem dX0_beforeAt_23 : decode cX0_beforeAt 23 = .ok (.areturn, 1) := by decide +kernel
theorem dX0_takeBack_0 : decode cX0_takeBack 0 = .ok (.aload_n 0, 1) := by decide +kernel
theorem dX0_takeBack_1 : decode cX0_takeBack 1 = .ok (.aload_n 0, 1) := by decide +kernel
theorem dX0_takeBack_2 : decode cX0_takeBack 2 = .ok (.getfield 18, 3) := by decide +kernel
theorem dX0_takeBack_5 : decode cX0_takeBack 5 = .ok (.iconst 1, 1) := by decide +kernel
theorem dX0_takeBack_6 : decode cX0_takeBack 6 = .ok (.isub, 1) := by decide +kernel
theorem dX0_takeBack_7 : decode cX0_takeBack 7 = .ok (.invokevirtual 25, 3) := by decide +kernel
theorem dX0_takeBack_10 : decode cX0_takeBack 10 = .ok (.astore_n 2, 1) := by decide +kernel
theorem dX0_takeBack_11 : decode cX0_takeBack 11 = .ok (.aload_n 2, 1) := by decide +kernel
theorem dX0_takeBack_12 : decode cX0_takeBack 12 = .ok (.ifnonnull 5, 3) := by decide +kernel
theorem dX0_takeBack_15 : decode cX0_takeBack 15 = .ok (.iconst 0, 1) := by decide +kernel
theorem dX0_takeBack_16 : decode cX0_takeBack 16 = .ok (.ireturn, 1) := by decide +kernel
theorem dX0_takeBack_17 : decode cX0_takeBack 17 = .ok (.aload_n 1, 1) := by decide +kernel
theorem dX0_takeBack_18 : decode cX0_takeBack 18 = .ok (.aload_n 2, 1) := by decide +kernel
theorem dX0_takeBack_19 : decode cX0_takeBack 19 = .ok (.invokevirtual 29, 3) := by decide +kernel
theorem dX0_takeBack_22 : decode cX0_takeBack 22 = .ok (.aload_n 0, 1) := by decide +kernel
theorem dX0_takeBack_23 : decode cX0_takeBack 23 = .ok (.dup, 1) := by decide +kernel
theorem dX0_takeBack_24 : decode cX0_takeBack 24 = .ok (.getfield 18, 3) := by decide +kernel
theorem dX0_takeBack_27 : decode cX0_takeBack 27 = .ok (.iconst 1, 1) := by decide +kernel
theorem dX0_takeBack_28 : decode cX0_takeBack 28 = .ok (.isub, 1) := by decide +kernel
theorem dX0_takeBack_29 : decode cX0_takeBack 29 = .ok (.putfield 18, 3) := by decide +kernel
theorem dX0_takeBack_32 : decode cX0_takeBack 32 = .ok (.iconst 1, 1) := by decide +kernel
theorem dX0_takeBack_33 : decode cX0_takeBack 33 = .ok (.ireturn, 1) := by decide +kernel
theorem dX1_init_0 : decode cX1_init 0 = .ok (.aload_n 0, 1) := by decide +kernel
theorem dX1_init_1 : decode cX1_init 1 = .ok (.invokespecial 3, 3) := by decide +kernel
theorem dX1_init_4 : decode cX1_init 4 = .ok (.aload_n 0, 1) := by decide +kernel
theorem dX1_init_5 : decode cX1_init 5 = .ok (.new 9, 3) := by decide +kernel
theorem dX1_init_8 : decode cX1_init 8 = .ok (.dup, 1) := by decide +kernel
theorem dX1_init_9 : decode cX1_init 9 = .ok (.invokespecial 11, 3) := by decide +kernel
theorem dX1_init_12 : decode cX1_init 12 = .ok (.putfield 12, 3) := by decide +kernel
theorem dX1_init_15 : decode cX1_init 15 = .ok (.aload_n 0, 1) := by decide +kernel
theorem dX1_init_16 : decode cX1_init 16 = .ok (.new 9, 3) := by decide +kernel
theorem dX1_init_19 : decode cX1_init 19 = .ok (.dup, 1) := by decide +kernel
theorem dX1_init_20 : decode cX1_init 20 = .ok (.invokespecial 11, 3) := by decide +kernel
theorem dX1_init_23 : decode cX1_init 23 = .ok (.putfield 18, 3) := by decide +kernel
theorem dX1_init_26 : decode cX1_init 26 = .ok (.aload_n 0, 1) := by decide +kernel
theorem dX1_init_27 : decode cX1_init 27 = .ok (.iconst 1, 1) := by decide +kernel
theorem dX1_init_28 : decode cX1_init 28 = .ok (.putfield 21, 3) := by decide +kernel
theorem dX1_init_31 : decode cX1_init 31 = .ok (.aload_n 0, 1) := by decide +kernel
theorem dX1_init_32 : decode cX1_init 32 = .ok (.iconst 1, 1) := by decide +kernel
theorem dX1_init_33 : decode cX1_init 33 = .ok (.putfield 25, 3) := by decide +kernel
theorem dX1_init_36 : decode cX1_init 36 = .ok (.aload_n 0, 1) := by decide +kernel
theorem dX1_init_37 : decode cX1_init 37 = .ok (.iconst 2, 1) := by decide +kernel
theorem dX1_init_38 : decode cX1_init 38 = .ok (.putfield 29, 3) := by decide +kernel
theorem dX1_init_41 : decode cX1_init 41 = .ok (.aload_n 0, 1) := by decide +kernel
theorem dX1_init_42 : decode cX1_init 42 = .ok (.iconst 0, 1) := by decide +kernel
theorem dX1_init_43 : decode cX1_init 43 = .ok (.putfield 32, 3) := by decide +kernel
theorem dX1_init_46 : decode cX1_init 46 = .ok (.aload_n 0, 1) := by decide +kernel
theorem dX1_init_47 : decode cX1_init 47 = .ok (.iconst 0, 1) := by decide +kernel
theorem dX1_init_48 : decode cX1_init 48 = .ok (.putfield 35, 3) := by decide +kernel
theorem dX1_init_51 : decode cX1_init 51 = .ok (.aload_n 0, 1) := by decide +kernel
theorem dX1_init_52 : decode cX1_init 52 = .ok (.iconst 0, 1) := by decide +kernel
theorem dX1_init_53 : decode cX1_init 53 = .ok (.putfield 38, 3) := by decide +kernel
theorem dX1_init_56 : decode cX1_init 56 = .ok (.aload_n 0, 1) := by decide +kernel
theorem dX1_init_57 : decode cX1_init 57 = .ok (.iconst 0, 1) := by decide +kernel
theorem dX1_init_58 : decode cX1_init 58 = .ok (.putfield 41, 3) := by decide +kernel
theorem dX1_init_61 : decode cX1_init 61 = .ok (.aload_n 0, 1) := by decide +kernel
theorem dX1_init_62 : decode cX1_init 62 = .ok (.iconst 0, 1) := by decide +kernel
theorem dX1_init_63 : decode cX1_init 63 = .ok (.putfield 44, 3) := by decide +kernel
theorem dX1_init_66 : decode cX1_init 66 = .ok (.aload_n 0, 1) := by decide +kernel
theorem dX1_init_67 : decode cX1_init 67 = .ok (.iconst 0, 1) := by decide +kernel
theorem dX1_init_68 : decode cX1_init 68 = .ok (.putfield 47, 3) := by decide +kernel
theorem dX1_init_71 : decode cX1_init 71 = .ok (.aload_n 0, 1) := by decide +kernel
theorem dX1_init_72 : decode cX1_init 72 = .ok (.iconst 0, 1) := by decide +kernel
theorem dX1_init_73 : decode cX1_init 73 = .ok (.putfield 50, 3) := by decide +kernel
theorem dX1_init_76 : decode cX1_init 76 = .ok (.aload_n 0, 1) := by decide +kernel
theorem dX1_init_77 : decode cX1_init 77 = .ok (.iconst 0, 1) := by decide +kernel
theorem dX1_init_78 : decode cX1_init 78 = .ok (.putfield 53, 3) := by decide +kernel
theorem dX1_init_81 : decode cX1_init 81 = .ok (.aload_n 0, 1) := by decide +kernel
theorem dX1_init_82 : decode cX1_init 82 = .ok (.iconst 0, 1) := by decide +kernel
theorem dX1_init_83 : decode cX1_init 83 = .ok (.putfield 56, 3) := by decide +kernel
theorem dX1_init_86 : decode cX1_init 86 = .ok (.return_, 1) := by decide +kernel
theorem dX1_become_0 : decode cX1_become 0 = .ok (.aload_n 0, 1) := by decide +kernel
theorem dX1_become_1 : decode cX1_become 1 = .ok (.getfield 12, 3) := by decide +kernel
theorem dX1_become_4 : decode cX1_become 4 = .ok (.aload_n 1, 1) := by decide +kernel
theorem dX1_become_5 : decode cX1_become 5 = .ok (.getfield 12, 3) := by decide +kernel
theorem dX1_become_8 : decode cX1_become 8 = .ok (.invokevirtual 59, 3) := by decide +kernel
theorem dX1_become_11 : decode cX1_become 11 = .ok (.aload_n 0, 1) := by decide +kernel
theorem dX1_become_12 : decode cX1_become 12 = .ok (.getfield 18, 3) := by decide +kernel
theorem dX1_become_15 : decode cX1_become 15 = .ok (.aload_n 1, 1) := by decide +kernel
theorem dX1_become_16 : decode cX1_become 16 = .ok (.getfield 18, 3) := by decide +kernel
theorem dX1_become_19 : decode cX1_become 19 = .ok (.invokevirtual 59, 3) := by decide +kernel
theorem dX1_become_22 : decode cX1_become 22 = .ok (.aload_n 0, 1) := by decide +kernel
theorem dX1_become_23 : decode cX1_become 23 = .ok (.aload_n 1, 1) := by decide +kernel
theorem dX1_become_24 : decode cX1_become 24 = .ok (.getfield 21, 3) := by decide +kernel
theorem dX1_become_27 : decode cX1_become 27 = .ok (.putfield 21, 3) := by decide +kernel
theorem dX1_become_30 : decode cX1_become 30 = .ok (.aload_n 0, 1) := by decide +kernel
theorem dX1_become_31 : decode cX1_become 31 = .ok (.aload_n 1, 1) := by decide +kernel
theorem dX1_become_32 : decode cX1_become 32 = .ok (.getfield 25, 3) := by decide +kernel
theorem dX1_become_35 : decode cX1_become 35 = .ok (.putfield 25, 3) := by decide +kernel
theorem dX1_become_38 : decode cX1_become 38 = .ok (.aload_n 0, 1) := by decide +kernel
theorem dX1_become_39 : decode cX1_become 39 = .ok (.aload_n 1, 1) := by decide +kernel
theorem dX1_become_40 : decode cX1_become 40 = .ok (.getfield 29, 3) := by decide +kernel
theorem dX1_become_43 : decode cX1_become 43 = .ok (.putfield 29, 3) := by decide +kernel
theorem dX1_become_46 : decode cX1_become 46 = .ok (.aload_n 0, 1) := by decide +kernel
theorem dX1_become_47 : decode cX1_become 47 = .ok (.aload_n 1, 1) := by decide +kernel
theorem dX1_become_48 : decode cX1_become 48 = .ok (.getfield 32, 3) := by decide +kernel
theorem dX1_become_51 : decode cX1_become 51 = .ok (.putfield 32, 3) := by decide +kernel
theorem dX1_become_54 : decode cX1_become 54 = .ok (.aload_n 0, 1) := by decide +kernel
theorem dX1_become_55 : decode cX1_become 55 = .ok (.aload_n 1, 1) := by decide +kernel
theorem dX1_become_56 : decode cX1_become 56 = .ok (.getfield 35, 3) := by decide +kernel
theorem dX1_become_59 : decode cX1_become 59 = .ok (.putfield 35, 3) := by decide +kernel
theorem dX1_become_62 : decode cX1_become 62 = .ok (.aload_n 0, 1) := by decide +kernel
theorem dX1_become_63 : decode cX1_become 63 = .ok (.aload_n 1, 1) := by decide +kernel
theorem dX1_become_64 : decode cX1_become 64 = .ok (.getfield 38, 3) := by decide +kernel
theorem dX1_become_67 : decode cX1_become 67 = .ok (.putfield 38, 3) := by decide +kernel
theorem dX1_become_70 : decode cX1_become 70 = .ok (.aload_n 0, 1) := by decide +kernel
theorem dX1_become_71 : decode cX1_become 71 = .ok (.aload_n 1, 1) := by decide +kernel
theorem dX1_become_72 : decode cX1_become 72 = .ok (.getfield 41, 3) := by decide +kernel
theorem dX1_become_75 : decode cX1_become 75 = .ok (.putfield 41, 3) := by decide +kernel
theorem dX1_become_78 : decode cX1_become 78 = .ok (.aload_n 0, 1) := by decide +kernel
theorem dX1_become_79 : decode cX1_become 79 = .ok (.aload_n 1, 1) := by decide +kernel
theorem dX1_become_80 : decode cX1_become 80 = .ok (.getfield 44, 3) := by decide +kernel
theorem dX1_become_83 : decode cX1_become 83 = .ok (.putfield 44, 3) := by decide +kernel
theorem dX1_become_86 : decode cX1_become 86 = .ok (.aload_n 0, 1) := by decide +kernel
theorem dX1_become_87 : decode cX1_become 87 = .ok (.aload_n 1, 1) := by decide +kernel
theorem dX1_become_88 : decode cX1_become 88 = .ok (.getfield 47, 3) := by decide +kernel
theorem dX1_become_91 : decode cX1_become 91 = .ok (.putfield 47, 3) := by decide +kernel
theorem dX1_become_94 : decode cX1_become 94 = .ok (.aload_n 0, 1) := by decide +kernel
theorem dX1_become_95 : decode cX1_become 95 = .ok (.aload_n 1, 1) := by decide +kernel
theorem dX1_become_96 : decode cX1_become 96 = .ok (.getfield 50, 3) := by decide +kernel
theorem dX1_become_99 : decode cX1_become 99 = .ok (.putfield 50, 3) := by decide +kernel
theorem dX1_become_102 : decode cX1_become 102 = .ok (.aload_n 0, 1) := by decide +kernel
theorem dX1_become_103 : decode cX1_become 103 = .ok (.aload_n 1, 1) := by decide +kernel
theorem dX1_become_104 : decode cX1_become 104 = .ok (.getfield 53, 3) := by decide +kernel
theorem dX1_become_107 : decode cX1_become 107 = .ok (.putfield 53, 3) := by decide +kernel
theorem dX1_become_110 : decode cX1_become 110 = .ok (.aload_n 0, 1) := by decide +kernel
theorem dX1_become_111 : decode cX1_become 111 = .ok (.aload_n 1, 1) := by decide +kernel
theorem dX1_become_112 : decode cX1_become 112 = .ok (.getfield 56, 3) := by decide +kernel
theorem dX1_become_115 : decode cX1_become 115 = .ok (.putfield 56, 3) := by decide +kernel
theorem dX1_become_118 : decode cX1_become 118 = .ok (.return_, 1) := by decide +kernel
theorem dX1_side_0 : decode cX1_side 0 = .ok (.iload_n 1, 1) := by decide +kernel
theorem dX1_side_1 : decode cX1_side 1 = .ok (.ifCond .ne 10, 3) := by decide +kernel
theorem dX1_side_4 : decode cX1_side 4 = .ok (.aload_n 0, 1) := by decide +kernel
theorem dX1_side_5 : decode cX1_side 5 = .ok (.getfield 12, 3) := by decide +kernel
theorem dX1_side_8 : decode cX1_side 8 = .ok (.goto 7, 3) := by decide +kernel
theorem dX1_side_11 : decode cX1_side 11 = .ok (.aload_n 0, 1) := by decide +kernel
theorem dX1_side_12 : decode cX1_side 12 = .ok (.getfield 18, 3) := by decide +kernel
theorem dX1_side_15 : decode cX1_side 15 = .ok (.areturn, 1) := by decide +kernel
theorem dX1_figure_0 : decode cX1_figure 0 = .ok (.iload_n 1, 1) := by decide +kernel
theorem dX1_figure_1 : decode cX1_figure 1 = .ok (.tableswitch 96 0 8 #[51, 56, 61, 66, 71, 76, 81, 86, 91], 51) := by decide +kernel
theorem dX1_figure_52 : decode cX1_figure 52 = .ok (.aload_n 0, 1) := by decide +kernel
theorem dX1_figure_53 : decode cX1_figure 53 = .ok (.getfield 32, 3) := by decide +kernel
theorem dX1_figure_56 : decode cX1_figure 56 = .ok (.ireturn, 1) := by decide +kernel
theorem dX1_figure_57 : decode cX1_figure 57 = .ok (.aload_n 0, 1) := by decide +kernel
theorem dX1_figure_58 : decode cX1_figure 58 = .ok (.getfield 35, 3) := by decide +kernel
theorem dX1_figure_61 : decode cX1_figure 61 = .ok (.ireturn, 1) := by decide +kernel
theorem dX1_figure_62 : decode cX1_figure 62 = .ok (.aload_n 0, 1) := by decide +kernel
theorem dX1_figure_63 : decode cX1_figure 63 = .ok (.getfield 38, 3) := by decide +kernel
theorem dX1_figure_66 : decode cX1_figure 66 = .ok (.ireturn, 1) := by decide +kernel
theorem dX1_figure_67 : decode cX1_figure 67 = .ok (.aload_n 0, 1) := by decide +kernel
theorem dX1_figure_68 : decode cX1_figure 68 = .ok (.invokevirtual 63, 3) := by decide +kernel
theorem dX1_figure_71 : decode cX1_figure 71 = .ok (.ireturn, 1) := by decide +kernel
theorem dX1_figure_72 : decode cX1_figure 72 = .ok (.aload_n 0, 1) := by decide +kernel
theorem dX1_figure_73 : decode cX1_figure 73 = .ok (.getfield 41, 3) := by decide +kernel
theorem dX1_figure_76 : decode cX1_figure 76 = .ok (.ireturn, 1) := by decide +kernel
theorem dX1_figure_77 : decode cX1_figure 77 = .ok (.aload_n 0, 1) := by decide +kernel
theorem dX1_figure_78 : decode cX1_figure 78 = .ok (.getfield 44, 3) := by decide +kernel
theorem dX1_figure_81 : decode cX1_figure 81 = .ok (.ireturn, 1) := by decide +kernel
theorem dX1_figure_82 : decode cX1_figure 82 = .ok (.aload_n 0, 1) := by decide +kernel
theorem dX1_figure_83 : decode cX1_figure 83 = .ok (.getfield 47, 3) := by decide +kernel
theorem dX1_figure_86 : decode cX1_figure 86 = .ok (.ireturn, 1) := by decide +kernel
theorem dX1_figure_87 : decode cX1_figure 87 = .ok (.aload_n 0, 1) := by decide +kernel
theorem dX1_figure_88 : decode cX1_figure 88 = .ok (.getfield 50, 3) := by decide +kernel
theorem dX1_figure_91 : decode cX1_figure 91 = .ok (.ireturn, 1) := by decide +kernel
theorem dX1_figure_92 : decode cX1_figure 92 = .ok (.aload_n 0, 1) := by decide +kernel
theorem dX1_figure_93 : decode cX1_figure 93 = .ok (.getfield 53, 3) := by decide +kernel
theorem dX1_figure_96 : decode cX1_figure 96 = .ok (.ireturn, 1) := by decide +kernel
theorem dX1_figure_97 : decode cX1_figure 97 = .ok (.aload_n 0, 1) := by decide +kernel
theorem dX1_figure_98 : decode cX1_figure 98 = .ok (.getfield 56, 3) := by decide +kernel
theorem dX1_figure_101 : decode cX1_figure 101 = .ok (.ireturn, 1) := by decide +kernel
theorem dX1_wakeTime_0 : decode cX1_wakeTime 0 = .ok (.aload_n 0, 1) := by decide +kernel
theorem dX1_wakeTime_1 : decode cX1_wakeTime 1 = .ok (.getfield 12, 3) := by decide +kernel
theorem dX1_wakeTime_4 : decode cX1_wakeTime 4 = .ok (.getfield 67, 3) := by decide +kernel
theorem dX1_wakeTime_7 : decode cX1_wakeTime 7 = .ok (.aload_n 0, 1) := by decide +kernel
theorem dX1_wakeTime_8 : decode cX1_wakeTime 8 = .ok (.getfield 18, 3) := by decide +kernel
theorem dX1_wakeTime_11 : decode cX1_wakeTime 11 = .ok (.getfield 67, 3) := by decide +kernel
theorem dX1_wakeTime_14 : decode cX1_wakeTime 14 = .ok (.invokestatic 70, 3) := by decide +kernel
theorem dX1_wakeTime_17 : decode cX1_wakeTime 17 = .ok (.aload_n 0, 1) := by decide +kernel
theorem dX1_wakeTime_18 : decode cX1_wakeTime 18 = .ok (.getfield 12, 3) := by decide +kernel
theorem dX1_wakeTime_21 : decode cX1_wakeTime 21 = .ok (.getfield 76, 3) := by decide +kernel
theorem dX1_wakeTime_24 : decode cX1_wakeTime 24 = .ok (.aload_n 0, 1) := by decide +kernel
theorem dX1_wakeTime_25 : decode cX1_wakeTime 25 = .ok (.getfield 18, 3) := by decide +kernel
theorem dX1_wakeTime_28 : decode cX1_wakeTime 28 = .ok (.getfield 76, 3) := by decide +kernel
theorem dX1_wakeTime_31 : decode cX1_wakeTime 31 = .ok (.invokestatic 70, 3) := by decide +kernel
theorem dX1_wakeTime_34 : decode cX1_wakeTime 34 = .ok (.invokestatic 70, 3) := by decide +kernel
theorem dX1_wakeTime_37 : decode cX1_wakeTime 37 = .ok (.ireturn, 1) := by decide +kernel
theorem dX1_price_0 : decode cX1_price 0 = .ok (.aload_n 0, 1) := by decide +kernel
theorem dX1_price_1 : decode cX1_price 1 = .ok (.getfield 44, 3) := by decide +kernel
theorem dX1_price_4 : decode cX1_price 4 = .ok (.aload_n 0, 1) := by decide +kernel
theorem dX1_price_5 : decode cX1_price 5 = .ok (.getfield 50, 3) := by decide +kernel
theorem dX1_price_8 : decode cX1_price 8 = .ok (.iadd, 1) := by decide +kernel
theorem dX1_price_9 : decode cX1_price 9 = .ok (.bipush 20, 2) := by decide +kernel
theorem dX1_price_11 : decode cX1_price 11 = .ok (.aload_n 0, 1) := by decide +kernel
theorem dX1_price_12 : decode cX1_price 12 = .ok (.getfield 56, 3) := by decide +kernel
theorem dX1_price_15 : decode cX1_price 15 = .ok (.imul, 1) := by decide +kernel
theorem dX1_price_16 : decode cX1_price 16 = .ok (.iadd, 1) := by decide +kernel
theorem dX1_price_17 : decode cX1_price 17 = .ok (.ireturn, 1) := by decide +kernel
theorem dX1_holdsNone_0 : decode cX1_holdsNone 0 = .ok (.aload_n 0, 1) := by decide +kernel
theorem dX1_holdsNone_1 : decode cX1_holdsNone 1 = .ok (.getfield 12, 3) := by decide +kernel
theorem dX1_holdsNone_4 : decode cX1_holdsNone 4 = .ok (.getfield 79, 3) := by decide +kernel
theorem dX1_holdsNone_7 : decode cX1_holdsNone 7 = .ok (.ifCond .ne 17, 3) := by decide +kernel
theorem dX1_holdsNone_10 : decode cX1_holdsNone 10 = .ok (.aload_n 0, 1) := by decide +kernel
theorem dX1_holdsNone_11 : decode cX1_holdsNone 11 = .ok (.getfield 18, 3) := by decide +kernel
theorem dX1_holdsNone_14 : decode cX1_holdsNone 14 = .ok (.getfield 79, 3) := by decide +kernel
theorem dX1_holdsNone_17 : decode cX1_holdsNone 17 = .ok (.ifCond .ne 7, 3) := by decide +kernel
theorem dX1_holdsNone_20 : decode cX1_holdsNone 20 = .ok (.iconst 1, 1) := by decide +kernel
theorem dX1_holdsNone_21 : decode cX1_holdsNone 21 = .ok (.goto 4, 3) := by decide +kernel
theorem dX1_holdsNone_24 : decode cX1_holdsNone 24 = .ok (.iconst 0, 1) := by decide +kernel
theorem dX1_holdsNone_25 : decode cX1_holdsNone 25 = .ok (.ireturn, 1) := by decide +kernel
theorem dX1_isAtRest_0 : decode cX1_isAtRest 0 = .ok (.aload_n 0, 1) := by decide +kernel
theorem dX1_isAtRest_1 : decode cX1_isAtRest 1 = .ok (.invokevirtual 82, 3) := by decide +kernel
theorem dX1_isAtRest_4 : decode cX1_isAtRest 4 = .ok (.ifCond .eq 22, 3) := by decide +kernel
theorem dX1_isAtRest_7 : decode cX1_isAtRest 7 = .ok (.aload_n 0, 1) := by decide +kernel
theorem dX1_isAtRest_8 : decode cX1_isAtRest 8 = .ok (.getfield 32, 3) := by decide +kernel
theorem dX1_isAtRest_11 : decode cX1_isAtRest 11 = .ok (.iconst 2, 1) := by decide +kernel
theorem dX1_isAtRest_12 : decode cX1_isAtRest 12 = .ok (.if_icmp .eq 10, 3) := by decide +kernel
theorem dX1_isAtRest_15 : decode cX1_isAtRest 15 = .ok (.aload_n 0, 1) := by decide +kernel
theorem dX1_isAtRest_16 : decode cX1_isAtRest 16 = .ok (.getfield 21, 3) := by decide +kernel
theorem dX1_isAtRest_19 : decode cX1_isAtRest 19 = .ok (.ifCond .ne 7, 3) := by decide +kernel
theorem dX1_isAtRest_22 : decode cX1_isAtRest 22 = .ok (.iconst 1, 1) := by decide +kernel
theorem dX1_isAtRest_23 : decode cX1_isAtRest 23 = .ok (.goto 4, 3) := by decide +kernel
theorem dX1_isAtRest_26 : decode cX1_isAtRest 26 = .ok (.iconst 0, 1) := by decide +kernel
theorem dX1_isAtRest_27 : decode cX1_isAtRest 27 = .ok (.ireturn, 1) := by decide +kernel
theorem dX1_receive_0 : decode cX1_receive 0 = .ok (.aload_n 0, 1) := by decide +kernel
theorem dX1_receive_1 : decode cX1_receive 1 = .ok (.iload_n 1, 1) := by decide +kernel
theorem dX1_receive_2 : decode cX1_receive 2 = .ok (.invokevirtual 86, 3) := by decide +kernel
theorem dX1_receive_5 : decode cX1_receive 5 = .ok (.bipush 10, 2) := by decide +kernel
theorem dX1_receive_7 : decode cX1_receive 7 = .ok (.aload_n 0, 1) := by decide +kernel
theorem dX1_receive_8 : decode cX1_receive 8 = .ok (.getfield 41, 3) := by decide +kernel
theorem dX1_receive_11 : decode cX1_receive 11 = .ok (.imul, 1) := by decide +kernel
theorem dX1_receive_12 : decode cX1_receive 12 = .ok (.iload_n 2, 1) := by decide +kernel
theorem dX1_receive_13 : decode cX1_receive 13 = .ok (.iadd, 1) := by decide +kernel
theorem dX1_receive_14 : decode cX1_receive 14 = .ok (.invokevirtual 90, 3) := by decide +kernel
theorem dX1_receive_17 : decode cX1_receive 17 = .ok (.ireturn, 1) := by decide +kernel
theorem dX1_retell_0 : decode cX1_retell 0 = .ok (.aload_n 0, 1) := by decide +kernel
theorem dX1_retell_1 : decode cX1_retell 1 = .ok (.iload_n 1, 1) := by decide +kernel
theorem dX1_retell_2 : decode cX1_retell 2 = .ok (.invokevirtual 86, 3) := by decide +kernel
theorem dX1_retell_5 : decode cX1_retell 5 = .ok (.astore 4, 2) := by decide +kernel
theorem dX1_retell_7 : decode cX1_retell 7 = .ok (.iload_n 2, 1) := by decide +kernel
theorem dX1_retell_8 : decode cX1_retell 8 = .ok (.ifCond .ne 26, 3) := by decide +kernel
theorem dX1_retell_11 : decode cX1_retell 11 = .ok (.aload 4, 2) := by decide +kernel
theorem dX1_retell_13 : decode cX1_retell 13 = .ok (.getfield 67, 3) := by decide +kernel
theorem dX1_retell_16 : decode cX1_retell 16 = .ok (.istore 5, 2) := by decide +kernel
theorem dX1_retell_18 : decode cX1_retell 18 = .ok (.aload 4, 2) := by decide +kernel
theorem dX1_retell_20 : decode cX1_retell 20 = .ok (.iload_n 3, 1) := by decide +kernel
theorem dX1_retell_21 : decode cX1_retell 21 = .ok (.putfield 67, 3) := by decide +kernel
theorem dX1_retell_24 : decode cX1_retell 24 = .ok (.aload_n 0, 1) := by decide +kernel
theorem dX1_retell_25 : decode cX1_retell 25 = .ok (.iload_n 1, 1) := by decide +kernel
theorem dX1_retell_26 : decode cX1_retell 26 = .ok (.iload_n 3, 1) := by decide +kernel
theorem dX1_retell_27 : decode cX1_retell 27 = .ok (.invokevirtual 94, 3) := by decide +kernel
theorem dX1_retell_30 : decode cX1_retell 30 = .ok (.pop, 1) := by decide +kernel
theorem dX1_retell_31 : decode cX1_retell 31 = .ok (.goto 37, 3) := by decide +kernel
theorem dX1_retell_34 : decode cX1_retell 34 = .ok (.iload_n 2, 1) := by decide +kernel
theorem dX1_retell_35 : decode cX1_retell 35 = .ok (.iconst 1, 1) := by decide +kernel
theorem dX1_retell_36 : decode cX1_retell 36 = .ok (.if_icmp .ne 19, 3) := by decide +kernel
theorem dX1_retell_39 : decode cX1_retell 39 = .ok (.aload 4, 2) := by decide +kernel
theorem dX1_retell_41 : decode cX1_retell 41 = .ok (.getfield 98, 3) := by decide +kernel
theorem dX1_retell_44 : decode cX1_retell 44 = .ok (.istore 5, 2) := by decide +kernel
theorem dX1_retell_46 : decode cX1_retell 46 = .ok (.aload 4, 2) := by decide +kernel
theorem dX1_retell_48 : decode cX1_retell 48 = .ok (.iload_n 3, 1) := by decide +kernel
theorem dX1_retell_49 : decode cX1_retell 49 = .ok (.putfield 98, 3) := by decide +kernel
theorem dX1_retell_52 : decode cX1_retell 52 = .ok (.goto 16, 3) := by decide +kernel
theorem dX1_retell_55 : decode cX1_retell 55 = .ok (.aload 4, 2) := by decide +kernel
theorem dX1_retell_57 : decode cX1_retell 57 = .ok (.getfield 101, 3) := by decide +kernel
theorem dX1_retell_60 : decode cX1_retell 60 = .ok (.istore 5, 2) := by decide +kernel
theorem dX1_retell_62 : decode cX1_retell 62 = .ok (.aload 4, 2) := by decide +kernel
theorem dX1_retell_64 : decode cX1_retell 64 = .ok (.iload_n 3, 1) := by decide +kernel
theorem dX1_retell_65 : decode cX1_retell 65 = .ok (.putfield 101, 3) := by decide +kernel
theorem dX1_retell_68 : decode cX1_retell 68 = .ok (.iload 5, 2) := by decide +kernel
theorem dX1_retell_70 : decode cX1_retell 70 = .ok (.ireturn, 1) := by decide +kernel
theorem dX1_elapse_0 : decode cX1_elapse 0 = .ok (.iconst 0, 1) := by decide +kernel
theorem dX1_elapse_1 : decode cX1_elapse 1 = .ok (.istore_n 2, 1) := by decide +kernel
theorem dX1_elapse_2 : decode cX1_elapse 2 = .ok (.iload_n 2, 1) := by decide +kernel
theorem dX1_elapse_3 : decode cX1_elapse 3 = .ok (.iload_n 1, 1) := by decide +kernel
theorem dX1_elapse_4 : decode cX1_elapse 4 = .ok (.if_icmp .ge 13, 3) := by decide +kernel
theorem dX1_elapse_7 : decode cX1_elapse 7 = .ok (.aload_n 0, 1) := by decide +kernel
theorem dX1_elapse_8 : decode cX1_elapse 8 = .ok (.invokevirtual 104, 3) := by decide +kernel
theorem dX1_elapse_11 : decode cX1_elapse 11 = .ok (.iinc 2 1, 3) := by decide +kernel
theorem dX1_elapse_14 : decode cX1_elapse 14 = .ok (.goto (-12), 3) := by decide +kernel
theorem dX1_elapse_17 : decode cX1_elapse 17 = .ok (.return_, 1) := by decide +kernel
theorem dX1_settle_0 : decode cX1_settle 0 = .ok (.iconst 0, 1) := by decide +kernel
theorem dX1_settle_1 : decode cX1_settle 1 = .ok (.istore_n 1, 1) := by decide +kernel
theorem dX1_settle_2 : decode cX1_settle 2 = .ok (.iload_n 1, 1) := by decide +kernel
theorem dX1_settle_3 : decode cX1_settle 3 = .ok (.bipush 99, 2) := by decide +kernel
theorem dX1_settle_5 : decode cX1_settle 5 = .ok (.if_icmp .ge 20, 3) := by decide +kernel
theorem dX1_settle_8 : decode cX1_settle 8 = .ok (.aload_n 0, 1) := by decide +kernel
theorem dX1_settle_9 : decode cX1_settle 9 = .ok (.invokevirtual 107, 3) := by decide +kernel
theorem dX1_settle_12 : decode cX1_settle 12 = .ok (.ifCond .ne 13, 3) := by decide +kernel
theorem dX1_settle_15 : decode cX1_settle 15 = .ok (.aload_n 0, 1) := by decide +kernel
theorem dX1_settle_16 : decode cX1_settle 16 = .ok (.invokevirtual 104, 3) := by decide +kernel
theorem dX1_settle_19 : decode cX1_settle 19 = .ok (.iinc 1 1, 3) := by decide +kernel
theorem dX1_settle_22 : decode cX1_settle 22 = .ok (.goto (-20), 3) := by decide +kernel
theorem dX1_settle_25 : decode cX1_settle 25 = .ok (.return_, 1) := by decide +kernel
theorem dX1_tick_0 : decode cX1_tick 0 = .ok (.aload_n 0, 1) := by decide +kernel
theorem dX1_tick_1 : decode cX1_tick 1 = .ok (.dup, 1) := by decide +kernel
theorem dX1_tick_2 : decode cX1_tick 2 = .ok (.getfield 44, 3) := by decide +kernel
theorem dX1_tick_5 : decode cX1_tick 5 = .ok (.aload_n 0, 1) := by decide +kernel
theorem dX1_tick_6 : decode cX1_tick 6 = .ok (.invokevirtual 110, 3) := by decide +kernel
theorem dX1_tick_9 : decode cX1_tick 9 = .ok (.iadd, 1) := by decide +kernel
theorem dX1_tick_10 : decode cX1_tick 10 = .ok (.putfield 44, 3) := by decide +kernel
theorem dX1_tick_13 : decode cX1_tick 13 = .ok (.aload_n 0, 1) := by decide +kernel
theorem dX1_tick_14 : decode cX1_tick 14 = .ok (.dup, 1) := by decide +kernel
theorem dX1_tick_15 : decode cX1_tick 15 = .ok (.getfield 41, 3) := by decide +kernel
theorem dX1_tick_18 : decode cX1_tick 18 = .ok (.iconst 1, 1) := by decide +kernel
theorem dX1_tick_19 : decode cX1_tick 19 = .ok (.iadd, 1) := by decide +kernel
theorem dX1_tick_20 : decode cX1_tick 20 = .ok (.putfield 41, 3) := by decide +kernel
theorem dX1_tick_23 : decode cX1_tick 23 = .ok (.aload_n 0, 1) := by decide +kernel
theorem dX1_tick_24 : decode cX1_tick 24 = .ok (.getfield 32, 3) := by decide +kernel
theorem dX1_tick_27 : decode cX1_tick 27 = .ok (.tableswitch 168 0 2 #[25, 79, 109], 25) := by decide +kernel
theorem dX1_tick_52 : decode cX1_tick 52 = .ok (.aload_n 0, 1) := by decide +kernel
theorem dX1_tick_53 : decode cX1_tick 53 = .ok (.aload_n 0, 1) := by decide +kernel
theorem dX1_tick_54 : decode cX1_tick 54 = .ok (.getfield 12, 3) := by decide +kernel
theorem dX1_tick_57 : decode cX1_tick 57 = .ok (.aload_n 0, 1) := by decide +kernel
theorem dX1_tick_58 : decode cX1_tick 58 = .ok (.getfield 18, 3) := by decide +kernel
theorem dX1_tick_61 : decode cX1_tick 61 = .ok (.invokevirtual 113, 3) := by decide +kernel
theorem dX1_tick_64 : decode cX1_tick 64 = .ok (.aload_n 0, 1) := by decide +kernel
theorem dX1_tick_65 : decode cX1_tick 65 = .ok (.aload_n 0, 1) := by decide +kernel
theorem dX1_tick_66 : decode cX1_tick 66 = .ok (.getfield 18, 3) := by decide +kernel
theorem dX1_tick_69 : decode cX1_tick 69 = .ok (.aload_n 0, 1) := by decide +kernel
theorem dX1_tick_70 : decode cX1_tick 70 = .ok (.getfield 12, 3) := by decide +kernel
theorem dX1_tick_73 : decode cX1_tick 73 = .ok (.invokevirtual 113, 3) := by decide +kernel
theorem dX1_tick_76 : decode cX1_tick 76 = .ok (.aload_n 0, 1) := by decide +kernel
theorem dX1_tick_77 : decode cX1_tick 77 = .ok (.getfield 21, 3) := by decide +kernel
theorem dX1_tick_80 : decode cX1_tick 80 = .ok (.ifCond .eq 137, 3) := by decide +kernel
theorem dX1_tick_83 : decode cX1_tick 83 = .ok (.aload_n 0, 1) := by decide +kernel
theorem dX1_tick_84 : decode cX1_tick 84 = .ok (.invokevirtual 82, 3) := by decide +kernel
theorem dX1_tick_87 : decode cX1_tick 87 = .ok (.ifCond .eq 130, 3) := by decide +kernel
theorem dX1_tick_90 : decode cX1_tick 90 = .ok (.aload_n 0, 1) := by decide +kernel
theorem dX1_tick_91 : decode cX1_tick 91 = .ok (.iconst 1, 1) := by decide +kernel
theorem dX1_tick_92 : decode cX1_tick 92 = .ok (.putfield 32, 3) := by decide +kernel
theorem dX1_tick_95 : decode cX1_tick 95 = .ok (.aload_n 0, 1) := by decide +kernel
theorem dX1_tick_96 : decode cX1_tick 96 = .ok (.aload_n 0, 1) := by decide +kernel
theorem dX1_tick_97 : decode cX1_tick 97 = .ok (.getfield 25, 3) := by decide +kernel
theorem dX1_tick_100 : decode cX1_tick 100 = .ok (.putfield 35, 3) := by decide +kernel
theorem dX1_tick_103 : decode cX1_tick 103 = .ok (.goto 114, 3) := by decide +kernel
theorem dX1_tick_106 : decode cX1_tick 106 = .ok (.aload_n 0, 1) := by decide +kernel
theorem dX1_tick_107 : decode cX1_tick 107 = .ok (.dup, 1) := by decide +kernel
theorem dX1_tick_108 : decode cX1_tick 108 = .ok (.getfield 35, 3) := by decide +kernel
theorem dX1_tick_111 : decode cX1_tick 111 = .ok (.iconst 1, 1) := by decide +kernel
theorem dX1_tick_112 : decode cX1_tick 112 = .ok (.isub, 1) := by decide +kernel
theorem dX1_tick_113 : decode cX1_tick 113 = .ok (.putfield 35, 3) := by decide +kernel
theorem dX1_tick_116 : decode cX1_tick 116 = .ok (.aload_n 0, 1) := by decide +kernel
theorem dX1_tick_117 : decode cX1_tick 117 = .ok (.getfield 35, 3) := by decide +kernel
theorem dX1_tick_120 : decode cX1_tick 120 = .ok (.ifCond .ne 97, 3) := by decide +kernel
theorem dX1_tick_123 : decode cX1_tick 123 = .ok (.aload_n 0, 1) := by decide +kernel
theorem dX1_tick_124 : decode cX1_tick 124 = .ok (.iconst 2, 1) := by decide +kernel
theorem dX1_tick_125 : decode cX1_tick 125 = .ok (.putfield 32, 3) := by decide +kernel
theorem dX1_tick_128 : decode cX1_tick 128 = .ok (.aload_n 0, 1) := by decide +kernel
theorem dX1_tick_129 : decode cX1_tick 129 = .ok (.iconst 0, 1) := by decide +kernel
theorem dX1_tick_130 : decode cX1_tick 130 = .ok (.putfield 38, 3) := by decide +kernel
theorem dX1_tick_133 : decode cX1_tick 133 = .ok (.goto 84, 3) := by decide +kernel
theorem dX1_tick_136 : decode cX1_tick 136 = .ok (.aload_n 0, 1) := by decide +kernel
theorem dX1_tick_137 : decode cX1_tick 137 = .ok (.dup, 1) := by decide +kernel
theorem dX1_tick_138 : decode cX1_tick 138 = .ok (.getfield 38, 3) := by decide +kernel
theorem dX1_tick_141 : decode cX1_tick 141 = .ok (.iconst 1, 1) := by decide +kernel
theorem dX1_tick_142 : decode cX1_tick 142 = .ok (.iadd, 1) := by decide +kernel
theorem dX1_tick_143 : decode cX1_tick 143 = .ok (.putfield 38, 3) := by decide +kernel
theorem dX1_tick_146 : decode cX1_tick 146 = .ok (.aload_n 0, 1) := by decide +kernel
theorem dX1_tick_147 : decode cX1_tick 147 = .ok (.getfield 12, 3) := by decide +kernel
theorem dX1_tick_150 : decode cX1_tick 150 = .ok (.aload_n 0, 1) := by decide +kernel
theorem dX1_tick_151 : decode cX1_tick 151 = .ok (.getfield 41, 3) := by decide +kernel
theorem dX1_tick_154 : decode cX1_tick 154 = .ok (.invokevirtual 117, 3) := by decide +kernel
theorem dX1_tick_157 : decode cX1_tick 157 = .ok (.ifCond .ne 17, 3) := by decide +kernel
theorem dX1_tick_160 : decode cX1_tick 160 = .ok (.aload_n 0, 1) := by decide +kernel
theorem dX1_tick_161 : decode cX1_tick 161 = .ok (.getfield 18, 3) := by decide +kernel
theorem dX1_tick_164 : decode cX1_tick 164 = .ok (.aload_n 0, 1) := by decide +kernel
theorem dX1_tick_165 : decode cX1_tick 165 = .ok (.getfield 41, 3) := by decide +kernel
theorem dX1_tick_168 : decode cX1_tick 168 = .ok (.invokevirtual 117, 3) := by decide +kernel
theorem dX1_tick_171 : decode cX1_tick 171 = .ok (.ifCond .eq 46, 3) := by decide +kernel
theorem dX1_tick_174 : decode cX1_tick 174 = .ok (.aload_n 0, 1) := by decide +kernel
theorem dX1_tick_175 : decode cX1_tick 175 = .ok (.iconst 3, 1) := by decide +kernel
theorem dX1_tick_176 : decode cX1_tick 176 = .ok (.putfield 32, 3) := by decide +kernel
theorem dX1_tick_179 : decode cX1_tick 179 = .ok (.aload_n 0, 1) := by decide +kernel
theorem dX1_tick_180 : decode cX1_tick 180 = .ok (.iconst 0, 1) := by decide +kernel
theorem dX1_tick_181 : decode cX1_tick 181 = .ok (.putfield 38, 3) := by decide +kernel
theorem dX1_tick_184 : decode cX1_tick 184 = .ok (.aload_n 0, 1) := by decide +kernel
theorem dX1_tick_185 : decode cX1_tick 185 = .ok (.aload_n 0, 1) := by decide +kernel
theorem dX1_tick_186 : decode cX1_tick 186 = .ok (.invokevirtual 63, 3) := by decide +kernel
theorem dX1_tick_189 : decode cX1_tick 189 = .ok (.putfield 35, 3) := by decide +kernel
theorem dX1_tick_192 : decode cX1_tick 192 = .ok (.goto 25, 3) := by decide +kernel
theorem dX1_tick_195 : decode cX1_tick 195 = .ok (.aload_n 0, 1) := by decide +kernel
theorem dX1_tick_196 : decode cX1_tick 196 = .ok (.dup, 1) := by decide +kernel
theorem dX1_tick_197 : decode cX1_tick 197 = .ok (.getfield 35, 3) := by decide +kernel
theorem dX1_tick_200 : decode cX1_tick 200 = .ok (.iconst 1, 1) := by decide +kernel
theorem dX1_tick_201 : decode cX1_tick 201 = .ok (.isub, 1) := by decide +kernel
theorem dX1_tick_202 : decode cX1_tick 202 = .ok (.putfield 35, 3) := by decide +kernel
theorem dX1_tick_205 : decode cX1_tick 205 = .ok (.aload_n 0, 1) := by decide +kernel
theorem dX1_tick_206 : decode cX1_tick 206 = .ok (.getfield 35, 3) := by decide +kernel
theorem dX1_tick_209 : decode cX1_tick 209 = .ok (.ifCond .ne 8, 3) := by decide +kernel
theorem dX1_tick_212 : decode cX1_tick 212 = .ok (.aload_n 0, 1) := by decide +kernel
theorem dX1_tick_213 : decode cX1_tick 213 = .ok (.iconst 0, 1) := by decide +kernel
theorem dX1_tick_214 : decode cX1_tick 214 = .ok (.putfield 32, 3) := by decide +kernel
theorem dX1_tick_217 : decode cX1_tick 217 = .ok (.return_, 1) := by decide +kernel
theorem dX1_power_0 : decode cX1_power 0 = .ok (.aload_n 0, 1) := by decide +kernel
theorem dX1_power_1 : decode cX1_power 1 = .ok (.getfield 32, 3) := by decide +kernel
theorem dX1_power_4 : decode cX1_power 4 = .ok (.iconst 2, 1) := by decide +kernel
theorem dX1_power_5 : decode cX1_power 5 = .ok (.if_icmp .eq 6, 3) := by decide +kernel
theorem dX1_power_8 : decode cX1_power 8 = .ok (.bipush 9, 2) := by decide +kernel
theorem dX1_power_10 : decode cX1_power 10 = .ok (.ireturn, 1) := by decide +kernel
theorem dX1_power_11 : decode cX1_power 11 = .ok (.aload_n 0, 1) := by decide +kernel
theorem dX1_power_12 : decode cX1_power 12 = .ok (.getfield 29, 3) := by decide +kernel
theorem dX1_power_15 : decode cX1_power 15 = .ok (.ifCond .le 21, 3) := by decide +kernel
theorem dX1_power_18 : decode cX1_power 18 = .ok (.aload_n 0, 1) := by decide +kernel
theorem dX1_power_19 : decode cX1_power 19 = .ok (.getfield 38, 3) := by decide +kernel
theorem dX1_power_22 : decode cX1_power 22 = .ok (.iconst 1, 1) := by decide +kernel
theorem dX1_power_23 : decode cX1_power 23 = .ok (.iadd, 1) := by decide +kernel
theorem dX1_power_24 : decode cX1_power 24 = .ok (.aload_n 0, 1) := by decide +kernel
theorem dX1_power_25 : decode cX1_power 25 = .ok (.getfield 29, 3) := by decide +kernel
theorem dX1_power_28 : decode cX1_power 28 = .ok (.irem, 1) := by decide +kernel
theorem dX1_power_29 : decode cX1_power 29 = .ok (.ifCond .ne 7, 3) := by decide +kernel
theorem dX1_power_32 : decode cX1_power 32 = .ok (.iconst 5, 1) := by decide +kernel
theorem dX1_power_33 : decode cX1_power 33 = .ok (.goto 4, 3) := by decide +kernel
theorem dX1_power_36 : decode cX1_power 36 = .ok (.iconst 1, 1) := by decide +kernel
theorem dX1_power_37 : decode cX1_power 37 = .ok (.ireturn, 1) := by decide +kernel
theorem dX1_send_0 : decode cX1_send 0 = .ok (.aload_n 1, 1) := by decide +kernel
theorem dX1_send_1 : decode cX1_send 1 = .ok (.iconst 0, 1) := by decide +kernel
theorem dX1_send_2 : decode cX1_send 2 = .ok (.invokevirtual 120, 3) := by decide +kernel
theorem dX1_send_5 : decode cX1_send 5 = .ok (.istore_n 3, 1) := by decide +kernel
theorem dX1_send_6 : decode cX1_send 6 = .ok (.iload_n 3, 1) := by decide +kernel
theorem dX1_send_7 : decode cX1_send 7 = .ok (.bipush (-9), 2) := by decide +kernel
theorem dX1_send_9 : decode cX1_send 9 = .ok (.if_icmp .ne 4, 3) := by decide +kernel
theorem dX1_send_12 : decode cX1_send 12 = .ok (.return_, 1) := by decide +kernel
theorem dX1_send_13 : decode cX1_send 13 = .ok (.aload_n 1, 1) := by decide +kernel
theorem dX1_send_14 : decode cX1_send 14 = .ok (.invokevirtual 124, 3) := by decide +kernel
theorem dX1_send_17 : decode cX1_send 17 = .ok (.aload_n 0, 1) := by decide +kernel
theorem dX1_send_18 : decode cX1_send 18 = .ok (.getfield 41, 3) := by decide +kernel
theorem dX1_send_21 : decode cX1_send 21 = .ok (.iload_n 3, 1) := by decide +kernel
theorem dX1_send_22 : decode cX1_send 22 = .ok (.bipush 10, 2) := by decide +kernel
theorem dX1_send_24 : decode cX1_send 24 = .ok (.idiv, 1) := by decide +kernel
theorem dX1_send_25 : decode cX1_send 25 = .ok (.isub, 1) := by decide +kernel
theorem dX1_send_26 : decode cX1_send 26 = .ok (.istore 4, 2) := by decide +kernel
theorem dX1_send_28 : decode cX1_send 28 = .ok (.aload_n 0, 1) := by decide +kernel
theorem dX1_send_29 : decode cX1_send 29 = .ok (.dup, 1) := by decide +kernel
theorem dX1_send_30 : decode cX1_send 30 = .ok (.getfield 47, 3) := by decide +kernel
theorem dX1_send_33 : decode cX1_send 33 = .ok (.iconst 1, 1) := by decide +kernel
theorem dX1_send_34 : decode cX1_send 34 = .ok (.iadd, 1) := by decide +kernel
theorem dX1_send_35 : decode cX1_send 35 = .ok (.putfield 47, 3) := by decide +kernel
theorem dX1_send_38 : decode cX1_send 38 = .ok (.aload_n 0, 1) := by decide +kernel
theorem dX1_send_39 : decode cX1_send 39 = .ok (.dup, 1) := by decide +kernel
theorem dX1_send_40 : decode cX1_send 40 = .ok (.getfield 50, 3) := by decide +kernel
theorem dX1_send_43 : decode cX1_send 43 = .ok (.iload 4, 2) := by decide +kernel
theorem dX1_send_45 : decode cX1_send 45 = .ok (.iadd, 1) := by decide +kernel
theorem dX1_send_46 : decode cX1_send 46 = .ok (.putfield 50, 3) := by decide +kernel
theorem dX1_send_49 : decode cX1_send 49 = .ok (.aload_n 0, 1) := by decide +kernel
theorem dX1_send_50 : decode cX1_send 50 = .ok (.aload_n 0, 1) := by decide +kernel
theorem dX1_send_51 : decode cX1_send 51 = .ok (.getfield 53, 3) := by decide +kernel
theorem dX1_send_54 : decode cX1_send 54 = .ok (.iload 4, 2) := by decide +kernel
theorem dX1_send_56 : decode cX1_send 56 = .ok (.invokestatic 70, 3) := by decide +kernel
theorem dX1_send_59 : decode cX1_send 59 = .ok (.putfield 53, 3) := by decide +kernel
theorem dX1_send_62 : decode cX1_send 62 = .ok (.iload_n 3, 1) := by decide +kernel
theorem dX1_send_63 : decode cX1_send 63 = .ok (.bipush 10, 2) := by decide +kernel
theorem dX1_send_65 : decode cX1_send 65 = .ok (.irem, 1) := by decide +kernel
theorem dX1_send_66 : decode cX1_send 66 = .ok (.ifCond .eq 11, 3) := by decide +kernel
theorem dX1_send_69 : decode cX1_send 69 = .ok (.aload_n 2, 1) := by decide +kernel
theorem dX1_send_70 : decode cX1_send 70 = .ok (.iload_n 3, 1) := by decide +kernel
theorem dX1_send_71 : decode cX1_send 71 = .ok (.bipush 10, 2) := by decide +kernel
theorem dX1_send_73 : decode cX1_send 73 = .ok (.irem, 1) := by decide +kernel
theorem dX1_send_74 : decode cX1_send 74 = .ok (.putfield 76, 3) := by decide +kernel
theorem dX1_send_77 : decode cX1_send 77 = .ok (.return_, 1) := by decide +kernel
theorem dX1_admits_0 : decode cX1_admits 0 = .ok (.iload_n 1, 1) := by decide +kernel
theorem dX1_admits_1 : decode cX1_admits 1 = .ok (.bipush 10, 2) := by decide +kernel
theorem dX1_admits_3 : decode cX1_admits 3 = .ok (.idiv, 1) := by decide +kernel
theorem dX1_admits_4 : decode cX1_admits 4 = .ok (.bipush 10, 2) := by decide +kernel
theorem dX1_admits_6 : decode cX1_admits 6 = .ok (.irem, 1) := by decide +kernel
theorem dX1_admits_7 : decode cX1_admits 7 = .ok (.istore_n 2, 1) := by decide +kernel
theorem dX1_admits_8 : decode cX1_admits 8 = .ok (.iload_n 1, 1) := by decide +kernel
theorem dX1_admits_9 : decode cX1_admits 9 = .ok (.bipush 10, 2) := by decide +kernel
theorem dX1_admits_11 : decode cX1_admits 11 = .ok (.irem, 1) := by decide +kernel
theorem dX1_admits_12 : decode cX1_admits 12 = .ok (.istore_n 3, 1) := by decide +kernel
theorem dX1_admits_13 : decode cX1_admits 13 = .ok (.iload_n 1, 1) := by decide +kernel
theorem dX1_admits_14 : decode cX1_admits 14 = .ok (.bipush 100, 2) := by decide +kernel
theorem dX1_admits_16 : decode cX1_admits 16 = .ok (.irem, 1) := by decide +kernel
theorem dX1_admits_17 : decode cX1_admits 17 = .ok (.istore 4, 2) := by decide +kernel
theorem dX1_admits_19 : decode cX1_admits 19 = .ok (.iload_n 1, 1) := by decide +kernel
theorem dX1_admits_20 : decode cX1_admits 20 = .ok (.bipush 100, 2) := by decide +kernel
theorem dX1_admits_22 : decode cX1_admits 22 = .ok (.idiv, 1) := by decide +kernel
theorem dX1_admits_23 : decode cX1_admits 23 = .ok (.tableswitch 191 1 7 #[41, 67, 74, 92, 117, 154, 169], 41) := by decide +kernel
theorem dX1_admits_64 : decode cX1_admits 64 = .ok (.iload_n 2, 1) := by decide +kernel
theorem dX1_admits_65 : decode cX1_admits 65 = .ok (.invokestatic 127, 3) := by decide +kernel
theorem dX1_admits_68 : decode cX1_admits 68 = .ok (.ifCond .eq 20, 3) := by decide +kernel
theorem dX1_admits_71 : decode cX1_admits 71 = .ok (.iload_n 3, 1) := by decide +kernel
theorem dX1_admits_72 : decode cX1_admits 72 = .ok (.ifCond .ne 16, 3) := by decide +kernel
theorem dX1_admits_75 : decode cX1_admits 75 = .ok (.aload_n 0, 1) := by decide +kernel
theorem dX1_admits_76 : decode cX1_admits 76 = .ok (.iload_n 2, 1) := by decide +kernel
theorem dX1_admits_77 : decode cX1_admits 77 = .ok (.iconst 0, 1) := by decide +kernel
theorem dX1_admits_78 : decode cX1_admits 78 = .ok (.invokevirtual 94, 3) := by decide +kernel
theorem dX1_admits_81 : decode cX1_admits 81 = .ok (.ifCond .eq 7, 3) := by decide +kernel
theorem dX1_admits_84 : decode cX1_admits 84 = .ok (.iconst 1, 1) := by decide +kernel
theorem dX1_admits_85 : decode cX1_admits 85 = .ok (.goto 4, 3) := by decide +kernel
theorem dX1_admits_88 : decode cX1_admits 88 = .ok (.iconst 0, 1) := by decide +kernel
theorem dX1_admits_89 : decode cX1_admits 89 = .ok (.ireturn, 1) := by decide +kernel
theorem dX1_admits_90 : decode cX1_admits 90 = .ok (.aload_n 0, 1) := by decide +kernel
theorem dX1_admits_91 : decode cX1_admits 91 = .ok (.iload 4, 2) := by decide +kernel
theorem dX1_admits_93 : decode cX1_admits 93 = .ok (.invokevirtual 130, 3) := by decide +kernel
theorem dX1_admits_96 : decode cX1_admits 96 = .ok (.ireturn, 1) := by decide +kernel
theorem dX1_admits_97 : decode cX1_admits 97 = .ok (.iload_n 2, 1) := by decide +kernel
theorem dX1_admits_98 : decode cX1_admits 98 = .ok (.ifCond .ne 15, 3) := by decide +kernel
theorem dX1_admits_101 : decode cX1_admits 101 = .ok (.aload_n 0, 1) := by decide +kernel
theorem dX1_admits_102 : decode cX1_admits 102 = .ok (.getfield 32, 3) := by decide +kernel
theorem dX1_admits_105 : decode cX1_admits 105 = .ok (.iload_n 3, 1) := by decide +kernel
theorem dX1_admits_106 : decode cX1_admits 106 = .ok (.if_icmp .ne 7, 3) := by decide +kernel
theorem dX1_admits_109 : decode cX1_admits 109 = .ok (.iconst 1, 1) := by decide +kernel
theorem dX1_admits_110 : decode cX1_admits 110 = .ok (.goto 4, 3) := by decide +kernel
theorem dX1_admits_113 : decode cX1_admits 113 = .ok (.iconst 0, 1) := by decide +kernel
theorem dX1_admits_114 : decode cX1_admits 114 = .ok (.ireturn, 1) := by decide +kernel
theorem dX1_admits_115 : decode cX1_admits 115 = .ok (.iload_n 2, 1) := by decide +kernel
theorem dX1_admits_116 : decode cX1_admits 116 = .ok (.invokestatic 127, 3) := by decide +kernel
theorem dX1_admits_119 : decode cX1_admits 119 = .ok (.ifCond .eq 19, 3) := by decide +kernel
theorem dX1_admits_122 : decode cX1_admits 122 = .ok (.aload_n 0, 1) := by decide +kernel
theorem dX1_admits_123 : decode cX1_admits 123 = .ok (.iload_n 2, 1) := by decide +kernel
theorem dX1_admits_124 : decode cX1_admits 124 = .ok (.invokevirtual 86, 3) := by decide +kernel
theorem dX1_admits_127 : decode cX1_admits 127 = .ok (.getfield 79, 3) := by decide +kernel
theorem dX1_admits_130 : decode cX1_admits 130 = .ok (.iload_n 3, 1) := by decide +kernel
theorem dX1_admits_131 : decode cX1_admits 131 = .ok (.if_icmp .ne 7, 3) := by decide +kernel
theorem dX1_admits_134 : decode cX1_admits 134 = .ok (.iconst 1, 1) := by decide +kernel
theorem dX1_admits_135 : decode cX1_admits 135 = .ok (.goto 4, 3) := by decide +kernel
theorem dX1_admits_138 : decode cX1_admits 138 = .ok (.iconst 0, 1) := by decide +kernel
theorem dX1_admits_139 : decode cX1_admits 139 = .ok (.ireturn, 1) := by decide +kernel
theorem dX1_admits_140 : decode cX1_admits 140 = .ok (.iload_n 2, 1) := by decide +kernel
theorem dX1_admits_141 : decode cX1_admits 141 = .ok (.invokestatic 127, 3) := by decide +kernel
theorem dX1_admits_144 : decode cX1_admits 144 = .ok (.ifCond .eq 31, 3) := by decide +kernel
theorem dX1_admits_147 : decode cX1_admits 147 = .ok (.iload_n 3, 1) := by decide +kernel
theorem dX1_admits_148 : decode cX1_admits 148 = .ok (.aload_n 0, 1) := by decide +kernel
theorem dX1_admits_149 : decode cX1_admits 149 = .ok (.iload_n 2, 1) := by decide +kernel
theorem dX1_admits_150 : decode cX1_admits 150 = .ok (.invokevirtual 86, 3) := by decide +kernel
theorem dX1_admits_153 : decode cX1_admits 153 = .ok (.aload_n 0, 1) := by decide +kernel
theorem dX1_admits_154 : decode cX1_admits 154 = .ok (.getfield 41, 3) := by decide +kernel
theorem dX1_admits_157 : decode cX1_admits 157 = .ok (.invokevirtual 117, 3) := by decide +kernel
theorem dX1_admits_160 : decode cX1_admits 160 = .ok (.ifCond .eq 7, 3) := by decide +kernel
theorem dX1_admits_163 : decode cX1_admits 163 = .ok (.iconst 1, 1) := by decide +kernel
theorem dX1_admits_164 : decode cX1_admits 164 = .ok (.goto 4, 3) := by decide +kernel
theorem dX1_admits_167 : decode cX1_admits 167 = .ok (.iconst 0, 1) := by decide +kernel
theorem dX1_admits_168 : decode cX1_admits 168 = .ok (.if_icmp .ne 7, 3) := by decide +kernel
theorem dX1_admits_171 : decode cX1_admits 171 = .ok (.iconst 1, 1) := by decide +kernel
theorem dX1_admits_172 : decode cX1_admits 172 = .ok (.goto 4, 3) := by decide +kernel
theorem dX1_admits_175 : decode cX1_admits 175 = .ok (.iconst 0, 1) := by decide +kernel
theorem dX1_admits_176 : decode cX1_admits 176 = .ok (.ireturn, 1) := by decide +kernel
theorem dX1_admits_177 : decode cX1_admits 177 = .ok (.aload_n 0, 1) := by decide +kernel
theorem dX1_admits_178 : decode cX1_admits 178 = .ok (.getfield 47, 3) := by decide +kernel
theorem dX1_admits_181 : decode cX1_admits 181 = .ok (.iload 4, 2) := by decide +kernel
theorem dX1_admits_183 : decode cX1_admits 183 = .ok (.if_icmp .ne 7, 3) := by decide +kernel
theorem dX1_admits_186 : decode cX1_admits 186 = .ok (.iconst 1, 1) := by decide +kernel
theorem dX1_admits_187 : decode cX1_admits 187 = .ok (.goto 4, 3) := by decide +kernel
theorem dX1_admits_190 : decode cX1_admits 190 = .ok (.iconst 0, 1) := by decide +kernel
theorem dX1_admits_191 : decode cX1_admits 191 = .ok (.ireturn, 1) := by decide +kernel
theorem dX1_admits_192 : decode cX1_admits 192 = .ok (.iload_n 2, 1) := by decide +kernel
theorem dX1_admits_193 : decode cX1_admits 193 = .ok (.invokestatic 127, 3) := by decide +kernel
theorem dX1_admits_196 : decode cX1_admits 196 = .ok (.ifCond .eq 16, 3) := by decide +kernel
theorem dX1_admits_199 : decode cX1_admits 199 = .ok (.aload_n 0, 1) := by decide +kernel
theorem dX1_admits_200 : decode cX1_admits 200 = .ok (.iload_n 2, 1) := by decide +kernel
theorem dX1_admits_201 : decode cX1_admits 201 = .ok (.iload_n 3, 1) := by decide +kernel
theorem dX1_admits_202 : decode cX1_admits 202 = .ok (.invokevirtual 133, 3) := by decide +kernel
theorem dX1_admits_205 : decode cX1_admits 205 = .ok (.ifCond .eq 7, 3) := by decide +kernel
theorem dX1_admits_208 : decode cX1_admits 208 = .ok (.iconst 1, 1) := by decide +kernel
theorem dX1_admits_209 : decode cX1_admits 209 = .ok (.goto 4, 3) := by decide +kernel
theorem dX1_admits_212 : decode cX1_admits 212 = .ok (.iconst 0, 1) := by decide +kernel
theorem dX1_admits_213 : decode cX1_admits 213 = .ok (.ireturn, 1) := by decide +kernel
theorem dX1_admits_214 : decode cX1_admits 214 = .ok (.iconst 0, 1) := by decide +kernel
theorem dX1_admits_215 : decode cX1_admits 215 = .ok (.ireturn, 1) := by decide +kernel
theorem dX1_admitsTicks_0 : decode cX1_admitsTicks 0 = .ok (.iload_n 1, 1) := by decide +kernel
theorem dX1_admitsTicks_1 : decode cX1_admitsTicks 1 = .ok (.iconst 1, 1) := by decide +kernel
theorem dX1_admitsTicks_2 : decode cX1_admitsTicks 2 = .ok (.bipush 20, 2) := by decide +kernel
theorem dX1_admitsTicks_4 : decode cX1_admitsTicks 4 = .ok (.invokestatic 136, 3) := by decide +kernel
theorem dX1_admitsTicks_7 : decode cX1_admitsTicks 7 = .ok (.ifCond .ne 5, 3) := by decide +kernel
theorem dX1_admitsTicks_10 : decode cX1_admitsTicks 10 = .ok (.iconst 0, 1) := by decide +kernel
theorem dX1_admitsTicks_11 : decode cX1_admitsTicks 11 = .ok (.ireturn, 1) := by decide +kernel
theorem dX1_admitsTicks_12 : decode cX1_admitsTicks 12 = .ok (.aload_n 0, 1) := by decide +kernel
theorem dX1_admitsTicks_13 : decode cX1_admitsTicks 13 = .ok (.iload_n 1, 1) := by decide +kernel
theorem dX1_admitsTicks_14 : decode cX1_admitsTicks 14 = .ok (.invokevirtual 140, 3) := by decide +kernel
theorem dX1_admitsTicks_17 : decode cX1_admitsTicks 17 = .ok (.iconst 1, 1) := by decide +kernel
theorem dX1_admitsTicks_18 : decode cX1_admitsTicks 18 = .ok (.ireturn, 1) := by decide +kernel
theorem dX1_admitsCount_0 : decode cX1_admitsCount 0 = .ok (.iload_n 2, 1) := by decide +kernel
theorem dX1_admitsCount_1 : decode cX1_admitsCount 1 = .ok (.invokestatic 144, 3) := by decide +kernel
theorem dX1_admitsCount_4 : decode cX1_admitsCount 4 = .ok (.ifCond .ne 5, 3) := by decide +kernel
theorem dX1_admitsCount_7 : decode cX1_admitsCount 7 = .ok (.iconst 0, 1) := by decide +kernel
theorem dX1_admitsCount_8 : decode cX1_admitsCount 8 = .ok (.ireturn, 1) := by decide +kernel
theorem dX1_admitsCount_9 : decode cX1_admitsCount 9 = .ok (.aload_n 0, 1) := by decide +kernel
theorem dX1_admitsCount_10 : decode cX1_admitsCount 10 = .ok (.iload_n 1, 1) := by decide +kernel
theorem dX1_admitsCount_11 : decode cX1_admitsCount 11 = .ok (.invokevirtual 86, 3) := by decide +kernel
theorem dX1_admitsCount_14 : decode cX1_admitsCount 14 = .ok (.iload_n 2, 1) := by decide +kernel
theorem dX1_admitsCount_15 : decode cX1_admitsCount 15 = .ok (.putfield 98, 3) := by decide +kernel
theorem dX1_admitsCount_18 : decode cX1_admitsCount 18 = .ok (.iconst 1, 1) := by decide +kernel
theorem dX1_admitsCount_19 : decode cX1_admitsCount 19 = .ok (.ireturn, 1) := by decide +kernel
theorem dX2_init_0 : decode cX2_init 0 = .ok (.aload_n 0, 1) := by decide +kernel
theorem dX2_init_1 : decode cX2_init 1 = .ok (.invokespecial 3, 3) := by decide +kernel
theorem dX2_init_4 : decode cX2_init 4 = .ok (.aload_n 0, 1) := by decide +kernel
theorem dX2_init_5 : decode cX2_init 5 = .ok (.new 9, 3) := by decide +kernel
theorem dX2_init_8 : decode cX2_init 8 = .ok (.dup, 1) := by decide +kernel
theorem dX2_init_9 : decode cX2_init 9 = .ok (.invokespecial 11, 3) := by decide +kernel
theorem dX2_init_12 : decode cX2_init 12 = .ok (.putfield 12, 3) := by decide +kernel
theorem dX2_init_15 : decode cX2_init 15 = .ok (.aload_n 0, 1) := by decide +kernel
theorem dX2_init_16 : decode cX2_init 16 = .ok (.bipush 71, 2) := by decide +kernel
theorem dX2_init_18 : decode cX2_init 18 = .ok (.newarray .int, 2) := by decide +kernel
theorem dX2_init_20 : decode cX2_init 20 = .ok (.putfield 18, 3) := by decide +kernel
theorem dX2_init_23 : decode cX2_init 23 = .ok (.aload_n 0, 1) := by decide +kernel
theorem dX2_init_24 : decode cX2_init 24 = .ok (.iconst 0, 1) := by decide +kernel
theorem dX2_init_25 : decode cX2_init 25 = .ok (.putfield 22, 3) := by decide +kernel
theorem dX2_init_28 : decode cX2_init 28 = .ok (.return_, 1) := by decide +kernel
theorem dX2_become_0 : decode cX2_become 0 = .ok (.aload_n 0, 1) := by decide +kernel
theorem dX2_become_1 : decode cX2_become 1 = .ok (.getfield 12, 3) := by decide +kernel
theorem dX2_become_4 : decode cX2_become 4 = .ok (.aload_n 1, 1) := by decide +kernel
theorem dX2_become_5 : decode cX2_become 5 = .ok (.iconst 1, 1) := by decide +kernel
theorem dX2_become_6 : decode cX2_become 6 = .ok (.invokevirtual 26, 3) := by decide +kernel
theorem dX2_become_9 : decode cX2_become 9 = .ok (.putfield 32, 3) := by decide +kernel
theorem dX2_become_12 : decode cX2_become 12 = .ok (.aload_n 0, 1) := by decide +kernel
theorem dX2_become_13 : decode cX2_become 13 = .ok (.getfield 12, 3) := by decide +kernel
theorem dX2_become_16 : decode cX2_become 16 = .ok (.aload_n 1, 1) := by decide +kernel
theorem dX2_become_17 : decode cX2_become 17 = .ok (.iconst 2, 1) := by decide +kernel
theorem dX2_become_18 : decode cX2_become 18 = .ok (.invokevirtual 26, 3) := by decide +kernel
theorem dX2_become_21 : decode cX2_become 21 = .ok (.putfield 35, 3) := by decide +kernel
theorem dX2_become_24 : decode cX2_become 24 = .ok (.aload_n 0, 1) := by decide +kernel
theorem dX2_become_25 : decode cX2_become 25 = .ok (.getfield 12, 3) := by decide +kernel
theorem dX2_become_28 : decode cX2_become 28 = .ok (.getfield 38, 3) := by decide +kernel
theorem dX2_become_31 : decode cX2_become 31 = .ok (.aload_n 1, 1) := by decide +kernel
theorem dX2_become_32 : decode cX2_become 32 = .ok (.iconst 3, 1) := by decide +kernel
theorem dX2_become_33 : decode cX2_become 33 = .ok (.invokestatic 42, 3) := by decide +kernel
theorem dX2_become_36 : decode cX2_become 36 = .ok (.aload_n 0, 1) := by decide +kernel
theorem dX2_become_37 : decode cX2_become 37 = .ok (.getfield 12, 3) := by decide +kernel
theorem dX2_become_40 : decode cX2_become 40 = .ok (.getfield 46, 3) := by decide +kernel
theorem dX2_become_43 : decode cX2_become 43 = .ok (.aload_n 1, 1) := by decide +kernel
theorem dX2_become_44 : decode cX2_become 44 = .ok (.bipush 6, 2) := by decide +kernel
theorem dX2_become_46 : decode cX2_become 46 = .ok (.invokestatic 42, 3) := by decide +kernel
theorem dX2_become_49 : decode cX2_become 49 = .ok (.aload_n 0, 1) := by decide +kernel
theorem dX2_become_50 : decode cX2_become 50 = .ok (.getfield 12, 3) := by decide +kernel
theorem dX2_become_53 : decode cX2_become 53 = .ok (.getfield 38, 3) := by decide +kernel
theorem dX2_become_56 : decode cX2_become 56 = .ok (.aload_n 0, 1) := by decide +kernel
theorem dX2_become_57 : decode cX2_become 57 = .ok (.getfield 12, 3) := by decide +kernel
theorem dX2_become_60 : decode cX2_become 60 = .ok (.getfield 46, 3) := by decide +kernel
theorem dX2_become_63 : decode cX2_become 63 = .ok (.getfield 49, 3) := by decide +kernel
theorem dX2_become_66 : decode cX2_become 66 = .ok (.putfield 54, 3) := by decide +kernel
theorem dX2_become_69 : decode cX2_become 69 = .ok (.aload_n 0, 1) := by decide +kernel
theorem dX2_become_70 : decode cX2_become 70 = .ok (.getfield 12, 3) := by decide +kernel
theorem dX2_become_73 : decode cX2_become 73 = .ok (.getfield 46, 3) := by decide +kernel
theorem dX2_become_76 : decode cX2_become 76 = .ok (.aload_n 0, 1) := by decide +kernel
theorem dX2_become_77 : decode cX2_become 77 = .ok (.getfield 12, 3) := by decide +kernel
theorem dX2_become_80 : decode cX2_become 80 = .ok (.getfield 38, 3) := by decide +kernel
theorem dX2_become_83 : decode cX2_become 83 = .ok (.getfield 49, 3) := by decide +kernel
theorem dX2_become_86 : decode cX2_become 86 = .ok (.putfield 54, 3) := by decide +kernel
theorem dX2_become_89 : decode cX2_become 89 = .ok (.aload_n 0, 1) := by decide +kernel
theorem dX2_become_90 : decode cX2_become 90 = .ok (.iconst 0, 1) := by decide +kernel
theorem dX2_become_91 : decode cX2_become 91 = .ok (.putfield 22, 3) := by decide +kernel
theorem dX2_become_94 : decode cX2_become 94 = .ok (.iconst 0, 1) := by decide +kernel
theorem dX2_become_95 : decode cX2_become 95 = .ok (.istore_n 2, 1) := by decide +kernel
theorem dX2_become_96 : decode cX2_become 96 = .ok (.iload_n 2, 1) := by decide +kernel
theorem dX2_become_97 : decode cX2_become 97 = .ok (.aload_n 0, 1) := by decide +kernel
theorem dX2_become_98 : decode cX2_become 98 = .ok (.getfield 18, 3) := by decide +kernel
theorem dX2_become_101 : decode cX2_become 101 = .ok (.arraylength, 1) := by decide +kernel
theorem dX2_become_102 : decode cX2_become 102 = .ok (.if_icmp .ge 44, 3) := by decide +kernel
theorem dX2_become_105 : decode cX2_become 105 = .ok (.bipush 9, 2) := by decide +kernel
theorem dX2_become_107 : decode cX2_become 107 = .ok (.iload_n 2, 1) := by decide +kernel
theorem dX2_become_108 : decode cX2_become 108 = .ok (.iadd, 1) := by decide +kernel
theorem dX2_become_109 : decode cX2_become 109 = .ok (.aload_n 1, 1) := by decide +kernel
theorem dX2_become_110 : decode cX2_become 110 = .ok (.getfield 57, 3) := by decide +kernel
theorem dX2_become_113 : decode cX2_become 113 = .ok (.if_icmp .ge 33, 3) := by decide +kernel
theorem dX2_become_116 : decode cX2_become 116 = .ok (.aload_n 0, 1) := by decide +kernel
theorem dX2_become_117 : decode cX2_become 117 = .ok (.getfield 18, 3) := by decide +kernel
theorem dX2_become_120 : decode cX2_become 120 = .ok (.iload_n 2, 1) := by decide +kernel
theorem dX2_become_121 : decode cX2_become 121 = .ok (.aload_n 1, 1) := by decide +kernel
theorem dX2_become_122 : decode cX2_become 122 = .ok (.bipush 9, 2) := by decide +kernel
theorem dX2_become_124 : decode cX2_become 124 = .ok (.iload_n 2, 1) := by decide +kernel
theorem dX2_become_125 : decode cX2_become 125 = .ok (.iadd, 1) := by decide +kernel
theorem dX2_become_126 : decode cX2_become 126 = .ok (.invokevirtual 58, 3) := by decide +kernel
theorem dX2_become_129 : decode cX2_become 129 = .ok (.iastore, 1) := by decide +kernel
theorem dX2_become_130 : decode cX2_become 130 = .ok (.aload_n 0, 1) := by decide +kernel
theorem dX2_become_131 : decode cX2_become 131 = .ok (.dup, 1) := by decide +kernel
theorem dX2_become_132 : decode cX2_become 132 = .ok (.getfield 22, 3) := by decide +kernel
theorem dX2_become_135 : decode cX2_become 135 = .ok (.iconst 1, 1) := by decide +kernel
theorem dX2_become_136 : decode cX2_become 136 = .ok (.iadd, 1) := by decide +kernel
theorem dX2_become_137 : decode cX2_become 137 = .ok (.putfield 22, 3) := by decide +kernel
theorem dX2_become_140 : decode cX2_become 140 = .ok (.iinc 2 1, 3) := by decide +kernel
theorem dX2_become_143 : decode cX2_become 143 = .ok (.goto (-47), 3) := by decide +kernel
theorem dX2_become_146 : decode cX2_become 146 = .ok (.return_, 1) := by decide +kernel
theorem dX2_readSide_0 : decode cX2_readSide 0 = .ok (.aload_n 0, 1) := by decide +kernel
theorem dX2_readSide_1 : decode cX2_readSide 1 = .ok (.aload_n 1, 1) := by decide +kernel
theorem dX2_readSide_2 : decode cX2_readSide 2 = .ok (.iload_n 2, 1) := by decide +kernel
theorem dX2_readSide_3 : decode cX2_readSide 3 = .ok (.invokevirtual 26, 3) := by decide +kernel
theorem dX2_readSide_6 : decode cX2_readSide 6 = .ok (.putfield 49, 3) := by decide +kernel
theorem dX2_readSide_9 : decode cX2_readSide 9 = .ok (.aload_n 0, 1) := by decide +kernel
theorem dX2_readSide_10 : decode cX2_readSide 10 = .ok (.aload_n 1, 1) := by decide +kernel
theorem dX2_readSide_11 : decode cX2_readSide 11 = .ok (.iload_n 2, 1) := by decide +kernel
theorem dX2_readSide_12 : decode cX2_readSide 12 = .ok (.iconst 1, 1) := by decide +kernel
theorem dX2_readSide_13 : decode cX2_readSide 13 = .ok (.iadd, 1) := by decide +kernel
theorem dX2_readSide_14 : decode cX2_readSide 14 = .ok (.invokevirtual 26, 3) := by decide +kernel
theorem dX2_readSide_17 : decode cX2_readSide 17 = .ok (.putfield 61, 3) := by decide +kernel
theorem dX2_readSide_20 : decode cX2_readSide 20 = .ok (.aload_n 0, 1) := by decide +kernel
theorem dX2_readSide_21 : decode cX2_readSide 21 = .ok (.aload_n 1, 1) := by decide +kernel
theorem dX2_readSide_22 : decode cX2_readSide 22 = .ok (.iload_n 2, 1) := by decide +kernel
theorem dX2_readSide_23 : decode cX2_readSide 23 = .ok (.iconst 2, 1) := by decide +kernel
theorem dX2_readSide_24 : decode cX2_readSide 24 = .ok (.iadd, 1) := by decide +kernel
theorem dX2_readSide_25 : decode cX2_readSide 25 = .ok (.invokevirtual 26, 3) := by decide +kernel
theorem dX2_readSide_28 : decode cX2_readSide 28 = .ok (.putfield 64, 3) := by decide +kernel
theorem dX2_readSide_31 : decode cX2_readSide 31 = .ok (.return_, 1) := by decide +kernel
theorem dX2_isLetter_0 : decode cX2_isLetter 0 = .ok (.iload_n 0, 1) := by decide +kernel
theorem dX2_isLetter_1 : decode cX2_isLetter 1 = .ok (.bipush 97, 2) := by decide +kernel
theorem dX2_isLetter_3 : decode cX2_isLetter 3 = .ok (.if_icmp .eq 9, 3) := by decide +kernel
theorem dX2_isLetter_6 : decode cX2_isLetter 6 = .ok (.iload_n 0, 1) := by decide +kernel
theorem dX2_isLetter_7 : decode cX2_isLetter 7 = .ok (.bipush 98, 2) := by decide +kernel
theorem dX2_isLetter_9 : decode cX2_isLetter 9 = .ok (.if_icmp .ne 7, 3) := by decide +kernel
theorem dX2_isLetter_12 : decode cX2_isLetter 12 = .ok (.iconst 1, 1) := by decide +kernel
theorem dX2_isLetter_13 : decode cX2_isLetter 13 = .ok (.goto 4, 3) := by decide +kernel
theorem dX2_isLetter_16 : decode cX2_isLetter 16 = .ok (.iconst 0, 1) := by decide +kernel
theorem dX2_isLetter_17 : decode cX2_isLetter 17 = .ok (.ireturn, 1) := by decide +kernel
theorem dX2_letters_0 : decode cX2_letters 0 = .ok (.iconst 0, 1) := by decide +kernel
theorem dX2_letters_1 : decode cX2_letters 1 = .ok (.istore_n 1, 1) := by decide +kernel
theorem dX2_letters_2 : decode cX2_letters 2 = .ok (.iconst 0, 1) := by decide +kernel
theorem dX2_letters_3 : decode cX2_letters 3 = .ok (.istore_n 2, 1) := by decide +kernel
theorem dX2_letters_4 : decode cX2_letters 4 = .ok (.iload_n 2, 1) := by decide +kernel
theorem dX2_letters_5 : decode cX2_letters 5 = .ok (.aload_n 0, 1) := by decide +kernel
theorem dX2_letters_6 : decode cX2_letters 6 = .ok (.getfield 22, 3) := by decide +kernel
theorem dX2_letters_9 : decode cX2_letters 9 = .ok (.if_icmp .ge 33, 3) := by decide +kernel
theorem dX2_letters_12 : decode cX2_letters 12 = .ok (.iload_n 2, 1) := by decide +kernel
theorem dX2_letters_13 : decode cX2_letters 13 = .ok (.aload_n 0, 1) := by decide +kernel
theorem dX2_letters_14 : decode cX2_letters 14 = .ok (.getfield 18, 3) := by decide +kernel
theorem dX2_letters_17 : decode cX2_letters 17 = .ok (.arraylength, 1) := by decide +kernel
theorem dX2_letters_18 : decode cX2_letters 18 = .ok (.if_icmp .ge 24, 3) := by decide +kernel
theorem dX2_letters_21 : decode cX2_letters 21 = .ok (.aload_n 0, 1) := by decide +kernel
theorem dX2_letters_22 : decode cX2_letters 22 = .ok (.getfield 18, 3) := by decide +kernel
theorem dX2_letters_25 : decode cX2_letters 25 = .ok (.iload_n 2, 1) := by decide +kernel
theorem dX2_letters_26 : decode cX2_letters 26 = .ok (.iaload, 1) := by decide +kernel
theorem dX2_letters_27 : decode cX2_letters 27 = .ok (.invokestatic 67, 3) := by decide +kernel
theorem dX2_letters_30 : decode cX2_letters 30 = .ok (.ifCond .eq 6, 3) := by decide +kernel
theorem dX2_letters_33 : decode cX2_letters 33 = .ok (.iinc 1 1, 3) := by decide +kernel
theorem dX2_letters_36 : decode cX2_letters 36 = .ok (.iinc 2 1, 3) := by decide +kernel
theorem dX2_letters_39 : decode cX2_letters 39 = .ok (.goto (-35), 3) := by decide +kernel
theorem dX2_letters_42 : decode cX2_letters 42 = .ok (.iload_n 1, 1) := by decide +kernel
theorem dX2_letters_43 : decode cX2_letters 43 = .ok (.ireturn, 1) := by decide +kernel
theorem dX2_perform_0 : decode cX2_perform 0 = .ok (.iconst 0, 1) := by decide +kernel
theorem dX2_perform_1 : decode cX2_perform 1 = .ok (.istore_n 3, 1) := by decide +kernel
theorem dX2_perform_2 : decode cX2_perform 2 = .ok (.iconst 0, 1) := by decide +kernel
theorem dX2_perform_3 : decode cX2_perform 3 = .ok (.istore 4, 2) := by decide +kernel
theorem dX2_perform_5 : decode cX2_perform 5 = .ok (.iload 4, 2) := by decide +kernel
theorem dX2_perform_7 : decode cX2_perform 7 = .ok (.aload_n 0, 1) := by decide +kernel
theorem dX2_perform_8 : decode cX2_perform 8 = .ok (.getfield 22, 3) := by decide +kernel
theorem dX2_perform_11 : decode cX2_perform 11 = .ok (.if_icmp .ge 83, 3) := by decide +kernel
theorem dX2_perform_14 : decode cX2_perform 14 = .ok (.iload 4, 2) := by decide +kernel
theorem dX2_perform_16 : decode cX2_perform 16 = .ok (.aload_n 0, 1) := by decide +kernel
theorem dX2_perform_17 : decode cX2_perform 17 = .ok (.getfield 18, 3) := by decide +kernel
theorem dX2_perform_20 : decode cX2_perform 20 = .ok (.arraylength, 1) := by decide +kernel
theorem dX2_perform_21 : decode cX2_perform 21 = .ok (.if_icmp .ge 73, 3) := by decide +kernel
theorem dX2_perform_24 : decode cX2_perform 24 = .ok (.aload_n 0, 1) := by decide +kernel
theorem dX2_perform_25 : decode cX2_perform 25 = .ok (.getfield 18, 3) := by decide +kernel
theorem dX2_perform_28 : decode cX2_perform 28 = .ok (.iload 4, 2) := by decide +kernel
theorem dX2_perform_30 : decode cX2_perform 30 = .ok (.iaload, 1) := by decide +kernel
theorem dX2_perform_31 : decode cX2_perform 31 = .ok (.istore 5, 2) := by decide +kernel
theorem dX2_perform_33 : decode cX2_perform 33 = .ok (.iload 5, 2) := by decide +kernel
theorem dX2_perform_35 : decode cX2_perform 35 = .ok (.invokestatic 67, 3) := by decide +kernel
theorem dX2_perform_38 : decode cX2_perform 38 = .ok (.ifCond .ne 15, 3) := by decide +kernel
theorem dX2_perform_41 : decode cX2_perform 41 = .ok (.aload_n 1, 1) := by decide +kernel
theorem dX2_perform_42 : decode cX2_perform 42 = .ok (.iload 5, 2) := by decide +kernel
theorem dX2_perform_44 : decode cX2_perform 44 = .ok (.bipush 48, 2) := by decide +kernel
theorem dX2_perform_46 : decode cX2_perform 46 = .ok (.isub, 1) := by decide +kernel
theorem dX2_perform_47 : decode cX2_perform 47 = .ok (.invokevirtual 71, 3) := by decide +kernel
theorem dX2_perform_50 : decode cX2_perform 50 = .ok (.goto 38, 3) := by decide +kernel
theorem dX2_perform_53 : decode cX2_perform 53 = .ok (.iload_n 3, 1) := by decide +kernel
theorem dX2_perform_54 : decode cX2_perform 54 = .ok (.bipush 6, 2) := by decide +kernel
theorem dX2_perform_56 : decode cX2_perform 56 = .ok (.if_icmp .ge 11, 3) := by decide +kernel
theorem dX2_perform_59 : decode cX2_perform 59 = .ok (.iload_n 2, 1) := by decide +kernel
theorem dX2_perform_60 : decode cX2_perform 60 = .ok (.iload_n 3, 1) := by decide +kernel
theorem dX2_perform_61 : decode cX2_perform 61 = .ok (.ishr, 1) := by decide +kernel
theorem dX2_perform_62 : decode cX2_perform 62 = .ok (.iconst 1, 1) := by decide +kernel
theorem dX2_perform_63 : decode cX2_perform 63 = .ok (.iand, 1) := by decide +kernel
theorem dX2_perform_64 : decode cX2_perform 64 = .ok (.ifCond .ne 7, 3) := by decide +kernel
theorem dX2_perform_67 : decode cX2_perform 67 = .ok (.iconst 1, 1) := by decide +kernel
theorem dX2_perform_68 : decode cX2_perform 68 = .ok (.goto 4, 3) := by decide +kernel
theorem dX2_perform_71 : decode cX2_perform 71 = .ok (.iconst 0, 1) := by decide +kernel
theorem dX2_perform_72 : decode cX2_perform 72 = .ok (.istore 6, 2) := by decide +kernel
theorem dX2_perform_74 : decode cX2_perform 74 = .ok (.iinc 3 1, 3) := by decide +kernel
theorem dX2_perform_77 : decode cX2_perform 77 = .ok (.iload 6, 2) := by decide +kernel
theorem dX2_perform_79 : decode cX2_perform 79 = .ok (.ifCond .eq 9, 3) := by decide +kernel
theorem dX2_perform_82 : decode cX2_perform 82 = .ok (.aload_n 1, 1) := by decide +kernel
theorem dX2_perform_83 : decode cX2_perform 83 = .ok (.iload 5, 2) := by decide +kernel
theorem dX2_perform_85 : decode cX2_perform 85 = .ok (.invokestatic 75, 3) := by decide +kernel
theorem dX2_perform_88 : decode cX2_perform 88 = .ok (.iinc 4 1, 3) := by decide +kernel
theorem dX2_perform_91 : decode cX2_perform 91 = .ok (.goto (-86), 3) := by decide +kernel
theorem dX2_perform_94 : decode cX2_perform 94 = .ok (.return_, 1) := by decide +kernel
theorem dX2_bring_0 : decode cX2_bring 0 = .ok (.aload_n 0, 1) := by decide +kernel
theorem dX2_bring_1 : decode cX2_bring 1 = .ok (.iload_n 1, 1) := by decide +kernel
theorem dX2_bring_2 : decode cX2_bring 2 = .ok (.bipush 97, 2) := by decide +kernel
theorem dX2_bring_4 : decode cX2_bring 4 = .ok (.isub, 1) := by decide +kernel
theorem dX2_bring_5 : decode cX2_bring 5 = .ok (.iconst 0, 1) := by decide +kernel
theorem dX2_bring_6 : decode cX2_bring 6 = .ok (.invokevirtual 79, 3) := by decide +kernel
theorem dX2_bring_9 : decode cX2_bring 9 = .ok (.ifCond .ne 13, 3) := by decide +kernel
theorem dX2_bring_12 : decode cX2_bring 12 = .ok (.aload_n 0, 1) := by decide +kernel
theorem dX2_bring_13 : decode cX2_bring 13 = .ok (.dup, 1) := by decide +kernel
theorem dX2_bring_14 : decode cX2_bring 14 = .ok (.getfield 83, 3) := by decide +kernel
theorem dX2_bring_17 : decode cX2_bring 17 = .ok (.iconst 1, 1) := by decide +kernel
theorem dX2_bring_18 : decode cX2_bring 18 = .ok (.iadd, 1) := by decide +kernel
theorem dX2_bring_19 : decode cX2_bring 19 = .ok (.putfield 83, 3) := by decide +kernel
theorem dX2_bring_22 : decode cX2_bring 22 = .ok (.return_, 1) := by decide +kernel
theorem dX2_performTill_0 : decode cX2_performTill 0 = .ok (.iconst 0, 1) := by decide +kernel
theorem dX2_performTill_1 : decode cX2_performTill 1 = .ok (.istore_n 3, 1) := by decide +kernel
theorem dX2_performTill_2 : decode cX2_performTill 2 = .ok (.iload_n 3, 1) := by decide +kernel
theorem dX2_performTill_3 : decode cX2_performTill 3 = .ok (.aload_n 0, 1) := by decide +kernel
theorem dX2_performTill_4 : decode cX2_performTill 4 = .ok (.getfield 22, 3) := by decide +kernel
theorem dX2_performTill_7 : decode cX2_performTill 7 = .ok (.if_icmp .ge 69, 3) := by decide +kernel
theorem dX2_performTill_10 : decode cX2_performTill 10 = .ok (.iload_n 3, 1) := by decide +kernel
theorem dX2_performTill_11 : decode cX2_performTill 11 = .ok (.aload_n 0, 1) := by decide +kernel
theorem dX2_performTill_12 : decode cX2_performTill 12 = .ok (.getfield 18, 3) := by decide +kernel
theorem dX2_performTill_15 : decode cX2_performTill 15 = .ok (.arraylength, 1) := by decide +kernel
theorem dX2_performTill_16 : decode cX2_performTill 16 = .ok (.if_icmp .ge 60, 3) := by decide +kernel
theorem dX2_performTill_19 : decode cX2_performTill 19 = .ok (.aload_n 1, 1) := by decide +kernel
theorem dX2_performTill_20 : decode cX2_performTill 20 = .ok (.getfield 86, 3) := by decide +kernel
theorem dX2_performTill_23 : decode cX2_performTill 23 = .ok (.iload_n 2, 1) := by decide +kernel
theorem dX2_performTill_24 : decode cX2_performTill 24 = .ok (.if_icmp .ge 52, 3) := by decide +kernel
theorem dX2_performTill_27 : decode cX2_performTill 27 = .ok (.aload_n 0, 1) := by decide +kernel
theorem dX2_performTill_28 : decode cX2_performTill 28 = .ok (.getfield 18, 3) := by decide +kernel
theorem dX2_performTill_31 : decode cX2_performTill 31 = .ok (.iload_n 3, 1) := by decide +kernel
theorem dX2_performTill_32 : decode cX2_performTill 32 = .ok (.iaload, 1) := by decide +kernel
theorem dX2_performTill_33 : decode cX2_performTill 33 = .ok (.istore 4, 2) := by decide +kernel
theorem dX2_performTill_35 : decode cX2_performTill 35 = .ok (.iload 4, 2) := by decide +kernel
theorem dX2_performTill_37 : decode cX2_performTill 37 = .ok (.invokestatic 67, 3) := by decide +kernel
theorem dX2_performTill_40 : decode cX2_performTill 40 = .ok (.ifCond .eq 12, 3) := by decide +kernel
theorem dX2_performTill_43 : decode cX2_performTill 43 = .ok (.aload_n 1, 1) := by decide +kernel
theorem dX2_performTill_44 : decode cX2_performTill 44 = .ok (.iload 4, 2) := by decide +kernel
theorem dX2_performTill_46 : decode cX2_performTill 46 = .ok (.invokestatic 75, 3) := by decide +kernel
theorem dX2_performTill_49 : decode cX2_performTill 49 = .ok (.goto 21, 3) := by decide +kernel
theorem dX2_performTill_52 : decode cX2_performTill 52 = .ok (.aload_n 1, 1) := by decide +kernel
theorem dX2_performTill_53 : decode cX2_performTill 53 = .ok (.iload 4, 2) := by decide +kernel
theorem dX2_performTill_55 : decode cX2_performTill 55 = .ok (.bipush 48, 2) := by decide +kernel
theorem dX2_performTill_57 : decode cX2_performTill 57 = .ok (.isub, 1) := by decide +kernel
theorem dX2_performTill_58 : decode cX2_performTill 58 = .ok (.iload_n 2, 1) := by decide +kernel
theorem dX2_performTill_59 : decode cX2_performTill 59 = .ok (.aload_n 1, 1) := by decide +kernel
theorem dX2_performTill_60 : decode cX2_performTill 60 = .ok (.getfield 86, 3) := by decide +kernel
theorem dX2_performTill_63 : decode cX2_performTill 63 = .ok (.isub, 1) := by decide +kernel
theorem dX2_performTill_64 : decode cX2_performTill 64 = .ok (.invokestatic 89, 3) := by decide +kernel
theorem dX2_performTill_67 : decode cX2_performTill 67 = .ok (.invokevirtual 71, 3) := by decide +kernel
theorem dX2_performTill_70 : decode cX2_performTill 70 = .ok (.iinc 3 1, 3) := by decide +kernel
theorem dX2_performTill_73 : decode cX2_performTill 73 = .ok (.goto (-71), 3) := by decide +kernel
theorem dX2_performTill_76 : decode cX2_performTill 76 = .ok (.aload_n 1, 1) := by decide +kernel
theorem dX2_performTill_77 : decode cX2_performTill 77 = .ok (.iload_n 2, 1) := by decide +kernel
theorem dX2_performTill_78 : decode cX2_performTill 78 = .ok (.aload_n 1, 1) := by decide +kernel
theorem dX2_performTill_79 : decode cX2_performTill 79 = .ok (.getfield 86, 3) := by decide +kernel
theorem dX2_performTill_82 : decode cX2_performTill 82 = .ok (.isub, 1) := by decide +kernel
theorem dX2_performTill_83 : decode cX2_performTill 83 = .ok (.invokevirtual 71, 3) := by decide +kernel
theorem dX2_performTill_86 : decode cX2_performTill 86 = .ok (.return_, 1) := by decide +kernel
theorem dX3_init_0 : decode cX3_init 0 = .ok (.aload_n 0, 1) := by decide +kernel
theorem dX3_init_1 : decode cX3_init 1 = .ok (.invokespecial 3, 3) := by decide +kernel
theorem dX3_init_4 : decode cX3_init 4 = .ok (.aload_n 0, 1) := by decide +kernel
theorem dX3_init_5 : decode cX3_init 5 = .ok (.iconst 1, 1) := by decide +kernel
theorem dX3_init_6 : decode cX3_init 6 = .ok (.putfield 9, 3) := by decide +kernel
theorem dX3_init_9 : decode cX3_init 9 = .ok (.aload_n 0, 1) := by decide +kernel
theorem dX3_init_10 : decode cX3_init 10 = .ok (.iconst 1, 1) := by decide +kernel
theorem dX3_init_11 : decode cX3_init 11 = .ok (.putfield 15, 3) := by decide +kernel
theorem dX3_init_14 : decode cX3_init 14 = .ok (.aload_n 0, 1) := by decide +kernel
theorem dX3_init_15 : decode cX3_init 15 = .ok (.iconst 1, 1) := by decide +kernel
theorem dX3_init_16 : decode cX3_init 16 = .ok (.putfield 18, 3) := by decide +kernel
theorem dX3_init_19 : decode cX3_init 19 = .ok (.aload_n 0, 1) := by decide +kernel
theorem dX3_init_20 : decode cX3_init 20 = .ok (.iconst 1, 1) := by decide +kernel
theorem dX3_init_21 : decode cX3_init 21 = .ok (.putfield 21, 3) := by decide +kernel
theorem dX3_init_24 : decode cX3_init 24 = .ok (.aload_n 0, 1) := by decide +kernel
theorem dX3_init_25 : decode cX3_init 25 = .ok (.iconst 0, 1) := by decide +kernel
theorem dX3_init_26 : decode cX3_init 26 = .ok (.putfield 24, 3) := by decide +kernel
theorem dX3_init_29 : decode cX3_init 29 = .ok (.aload_n 0, 1) := by decide +kernel
theorem dX3_init_30 : decode cX3_init 30 = .ok (.bipush 9, 2) := by decide +kernel
theorem dX3_init_32 : decode cX3_init 32 = .ok (.newarray .int, 2) := by decide +kernel
theorem dX3_init_34 : decode cX3_init 34 = .ok (.putfield 27, 3) := by decide +kernel
theorem dX3_init_37 : decode cX3_init 37 = .ok (.return_, 1) := by decide +kernel
theorem dX3_become_0 : decode cX3_become 0 = .ok (.aload_n 0, 1) := by decide +kernel
theorem dX3_become_1 : decode cX3_become 1 = .ok (.aload_n 1, 1) := by decide +kernel
theorem dX3_become_2 : decode cX3_become 2 = .ok (.getfield 9, 3) := by decide +kernel
theorem dX3_become_5 : decode cX3_become 5 = .ok (.putfield 9, 3) := by decide +kernel
theorem dX3_become_8 : decode cX3_become 8 = .ok (.aload_n 0, 1) := by decide +kernel
theorem dX3_become_9 : decode cX3_become 9 = .ok (.aload_n 1, 1) := by decide +kernel
theorem dX3_become_10 : decode cX3_become 10 = .ok (.getfield 15, 3) := by decide +kernel
theorem dX3_become_13 : decode cX3_become 13 = .ok (.putfield 15, 3) := by decide +kernel
theorem dX3_become_16 : decode cX3_become 16 = .ok (.aload_n 0, 1) := by decide +kernel
theorem dX3_become_17 : decode cX3_become 17 = .ok (.aload_n 1, 1) := by decide +kernel
theorem dX3_become_18 : decode cX3_become 18 = .ok (.getfield 18, 3) := by decide +kernel
theorem dX3_become_21 : decode cX3_become 21 = .ok (.putfield 18, 3) := by decide +kernel
theorem dX3_become_24 : decode cX3_become 24 = .ok (.aload_n 0, 1) := by decide +kernel
theorem dX3_become_25 : decode cX3_become 25 = .ok (.aload_n 1, 1) := by decide +kernel
theorem dX3_become_26 : decode cX3_become 26 = .ok (.getfield 21, 3) := by decide +kernel
theorem dX3_become_29 : decode cX3_become 29 = .ok (.putfield 21, 3) := by decide +kernel
theorem dX3_become_32 : decode cX3_become 32 = .ok (.aload_n 0, 1) := by decide +kernel
theorem dX3_become_33 : decode cX3_become 33 = .ok (.aload_n 1, 1) := by decide +kernel
theorem dX3_become_34 : decode cX3_become 34 = .ok (.getfield 24, 3) := by decide +kernel
theorem dX3_become_37 : decode cX3_become 37 = .ok (.putfield 24, 3) := by decide +kernel
theorem dX3_become_40 : decode cX3_become 40 = .ok (.iconst 0, 1) := by decide +kernel
theorem dX3_become_41 : decode cX3_become 41 = .ok (.istore_n 2, 1) := by decide +kernel
theorem dX3_become_42 : decode cX3_become 42 = .ok (.iload_n 2, 1) := by decide +kernel
theorem dX3_become_43 : decode cX3_become 43 = .ok (.aload_n 0, 1) := by decide +kernel
theorem dX3_become_44 : decode cX3_become 44 = .ok (.getfield 24, 3) := by decide +kernel
theorem dX3_become_47 : decode cX3_become 47 = .ok (.if_icmp .ge 39, 3) := by decide +kernel
theorem dX3_become_50 : decode cX3_become 50 = .ok (.iload_n 2, 1) := by decide +kernel
theorem dX3_become_51 : decode cX3_become 51 = .ok (.aload_n 0, 1) := by decide +kernel
theorem dX3_become_52 : decode cX3_become 52 = .ok (.getfield 27, 3) := by decide +kernel
theorem dX3_become_55 : decode cX3_become 55 = .ok (.arraylength, 1) := by decide +kernel
theorem dX3_become_56 : decode cX3_become 56 = .ok (.if_icmp .ge 30, 3) := by decide +kernel
theorem dX3_become_59 : decode cX3_become 59 = .ok (.iload_n 2, 1) := by decide +kernel
theorem dX3_become_60 : decode cX3_become 60 = .ok (.aload_n 1, 1) := by decide +kernel
theorem dX3_become_61 : decode cX3_become 61 = .ok (.getfield 27, 3) := by decide +kernel
theorem dX3_become_64 : decode cX3_become 64 = .ok (.arraylength, 1) := by decide +kernel
theorem dX3_become_65 : decode cX3_become 65 = .ok (.if_icmp .ge 21, 3) := by decide +kernel
theorem dX3_become_68 : decode cX3_become 68 = .ok (.aload_n 0, 1) := by decide +kernel
theorem dX3_become_69 : decode cX3_become 69 = .ok (.getfield 27, 3) := by decide +kernel
theorem dX3_become_72 : decode cX3_become 72 = .ok (.iload_n 2, 1) := by decide +kernel
theorem dX3_become_73 : decode cX3_become 73 = .ok (.aload_n 1, 1) := by decide +kernel
theorem dX3_become_74 : decode cX3_become 74 = .ok (.getfield 27, 3) := by decide +kernel
theorem dX3_become_77 : decode cX3_become 77 = .ok (.iload_n 2, 1) := by decide +kernel
theorem dX3_become_78 : decode cX3_become 78 = .ok (.iaload, 1) := by decide +kernel
theorem dX3_become_79 : decode cX3_become 79 = .ok (.iastore, 1) := by decide +kernel
theorem dX3_become_80 : decode cX3_become 80 = .ok (.iinc 2 1, 3) := by decide +kernel
theorem dX3_become_83 : decode cX3_become 83 = .ok (.goto (-41), 3) := by decide +kernel
theorem dX3_become_86 : decode cX3_become 86 = .ok (.return_, 1) := by decide +kernel
theorem dX3_isFull_0 : decode cX3_isFull 0 = .ok (.aload_n 0, 1) := by decide +kernel
theorem dX3_isFull_1 : decode cX3_isFull 1 = .ok (.getfield 24, 3) := by decide +kernel
theorem dX3_isFull_4 : decode cX3_isFull 4 = .ok (.bipush 9, 2) := by decide +kernel
theorem dX3_isFull_6 : decode cX3_isFull 6 = .ok (.if_icmp .lt 7, 3) := by decide +kernel
theorem dX3_isFull_9 : decode cX3_isFull 9 = .ok (.iconst 1, 1) := by decide +kernel
theorem dX3_isFull_10 : decode cX3_isFull 10 = .ok (.goto 4, 3) := by decide +kernel
theorem dX3_isFull_13 : decode cX3_isFull 13 = .ok (.iconst 0, 1) := by decide +kernel
theorem dX3_isFull_14 : decode cX3_isFull 14 = .ok (.ireturn, 1) := by decide +kernel
theorem dX3_append_0 : decode cX3_append 0 = .ok (.aload_n 0, 1) := by decide +kernel
theorem dX3_append_1 : decode cX3_append 1 = .ok (.getfield 24, 3) := by decide +kernel
theorem dX3_append_4 : decode cX3_append 4 = .ok (.ifCond .lt 15, 3) := by decide +kernel
theorem dX3_append_7 : decode cX3_append 7 = .ok (.aload_n 0, 1) := by decide +kernel
theorem dX3_append_8 : decode cX3_append 8 = .ok (.getfield 24, 3) := by decide +kernel
theorem dX3_append_11 : decode cX3_append 11 = .ok (.aload_n 0, 1) := by decide +kernel
theorem dX3_append_12 : decode cX3_append 12 = .ok (.getfield 27, 3) := by decide +kernel
theorem dX3_append_15 : decode cX3_append 15 = .ok (.arraylength, 1) := by decide +kernel
theorem dX3_append_16 : decode cX3_append 16 = .ok (.if_icmp .lt 5, 3) := by decide +kernel
theorem dX3_append_19 : decode cX3_append 19 = .ok (.iconst 0, 1) := by decide +kernel
theorem dX3_append_20 : decode cX3_append 20 = .ok (.ireturn, 1) := by decide +kernel
theorem dX3_append_21 : decode cX3_append 21 = .ok (.aload_n 0, 1) := by decide +kernel
theorem dX3_append_22 : decode cX3_append 22 = .ok (.getfield 27, 3) := by decide +kernel
theorem dX3_append_25 : decode cX3_append 25 = .ok (.aload_n 0, 1) := by decide +kernel
theorem dX3_append_26 : decode cX3_append 26 = .ok (.getfield 24, 3) := by decide +kernel
theorem dX3_append_29 : decode cX3_append 29 = .ok (.iload_n 1, 1) := by decide +kernel
theorem dX3_append_30 : decode cX3_append 30 = .ok (.iastore, 1) := by decide +kernel
theorem dX3_append_31 : decode cX3_append 31 = .ok (.aload_n 0, 1) := by decide +kernel
theorem dX3_append_32 : decode cX3_append 32 = .ok (.dup, 1) := by decide +kernel
theorem dX3_append_33 : decode cX3_append 33 = .ok (.getfield 24, 3) := by decide +kernel
theorem dX3_append_36 : decode cX3_append 36 = .ok (.iconst 1, 1) := by decide +kernel
theorem dX3_append_37 : decode cX3_append 37 = .ok (.iadd, 1) := by decide +kernel
theorem dX3_append_38 : decode cX3_append 38 = .ok (.putfield 24, 3) := by decide +kernel
theorem dX3_append_41 : decode cX3_append 41 = .ok (.iconst 1, 1) := by decide +kernel
theorem dX3_append_42 : decode cX3_append 42 = .ok (.ireturn, 1) := by decide +kernel
theorem dX3_letterAt_0 : decode cX3_letterAt 0 = .ok (.iload_n 1, 1) := by decide +kernel
theorem dX3_letterAt_1 : decode cX3_letterAt 1 = .ok (.ifCond .lt 29, 3) := by decide +kernel
theorem dX3_letterAt_4 : decode cX3_letterAt 4 = .ok (.iload_n 1, 1) := by decide +kernel
theorem dX3_letterAt_5 : decode cX3_letterAt 5 = .ok (.aload_n 0, 1) := by decide +kernel
theorem dX3_letterAt_6 : decode cX3_letterAt 6 = .ok (.getfield 24, 3) := by decide +kernel
theorem dX3_letterAt_9 : decode cX3_letterAt 9 = .ok (.if_icmp .ge 21, 3) := by decide +kernel
theorem dX3_letterAt_12 : decode cX3_letterAt 12 = .ok (.iload_n 1, 1) := by decide +kernel
theorem dX3_letterAt_13 : decode cX3_letterAt 13 = .ok (.aload_n 0, 1) := by decide +kernel
theorem dX3_letterAt_14 : decode cX3_letterAt 14 = .ok (.getfield 27, 3) := by decide +kernel
theorem dX3_letterAt_17 : decode cX3_letterAt 17 = .ok (.arraylength, 1) := by decide +kernel
theorem dX3_letterAt_18 : decode cX3_letterAt 18 = .ok (.if_icmp .ge 12, 3) := by decide +kernel
theorem dX3_letterAt_21 : decode cX3_letterAt 21 = .ok (.aload_n 0, 1) := by decide +kernel
theorem dX3_letterAt_22 : decode cX3_letterAt 22 = .ok (.getfield 27, 3) := by decide +kernel
theorem dX3_letterAt_25 : decode cX3_letterAt 25 = .ok (.iload_n 1, 1) := by decide +kernel
theorem dX3_letterAt_26 : decode cX3_letterAt 26 = .ok (.iaload, 1) := by decide +kernel
theorem dX3_letterAt_27 : decode cX3_letterAt 27 = .ok (.goto 5, 3) := by decide +kernel
theorem dX3_letterAt_30 : decode cX3_letterAt 30 = .ok (.bipush (-9), 2) := by decide +kernel
theorem dX3_letterAt_32 : decode cX3_letterAt 32 = .ok (.ireturn, 1) := by decide +kernel
theorem dX3_dropFirst_0 : decode cX3_dropFirst 0 = .ok (.iconst 1, 1) := by decide +kernel
theorem dX3_dropFirst_1 : decode cX3_dropFirst 1 = .ok (.istore_n 1, 1) := by decide +kernel
theorem dX3_dropFirst_2 : decode cX3_dropFirst 2 = .ok (.iload_n 1, 1) := by decide +kernel
theorem dX3_dropFirst_3 : decode cX3_dropFirst 3 = .ok (.aload_n 0, 1) := by decide +kernel
theorem dX3_dropFirst_4 : decode cX3_dropFirst 4 = .ok (.getfield 24, 3) := by decide +kernel
theorem dX3_dropFirst_7 : decode cX3_dropFirst 7 = .ok (.if_icmp .ge 32, 3) := by decide +kernel
theorem dX3_dropFirst_10 : decode cX3_dropFirst 10 = .ok (.iload_n 1, 1) := by decide +kernel
theorem dX3_dropFirst_11 : decode cX3_dropFirst 11 = .ok (.aload_n 0, 1) := by decide +kernel
theorem dX3_dropFirst_12 : decode cX3_dropFirst 12 = .ok (.getfield 27, 3) := by decide +kernel
theorem dX3_dropFirst_15 : decode cX3_dropFirst 15 = .ok (.arraylength, 1) := by decide +kernel
theorem dX3_dropFirst_16 : decode cX3_dropFirst 16 = .ok (.if_icmp .ge 23, 3) := by decide +kernel
theorem dX3_dropFirst_19 : decode cX3_dropFirst 19 = .ok (.aload_n 0, 1) := by decide +kernel
theorem dX3_dropFirst_20 : decode cX3_dropFirst 20 = .ok (.getfield 27, 3) := by decide +kernel
theorem dX3_dropFirst_23 : decode cX3_dropFirst 23 = .ok (.iload_n 1, 1) := by decide +kernel
theorem dX3_dropFirst_24 : decode cX3_dropFirst 24 = .ok (.iconst 1, 1) := by decide +kernel
theorem dX3_dropFirst_25 : decode cX3_dropFirst 25 = .ok (.isub, 1) := by decide +kernel
theorem dX3_dropFirst_26 : decode cX3_dropFirst 26 = .ok (.aload_n 0, 1) := by decide +kernel
theorem dX3_dropFirst_27 : decode cX3_dropFirst 27 = .ok (.getfield 27, 3) := by decide +kernel
theorem dX3_dropFirst_30 : decode cX3_dropFirst 30 = .ok (.iload_n 1, 1) := by decide +kernel
theorem dX3_dropFirst_31 : decode cX3_dropFirst 31 = .ok (.iaload, 1) := by decide +kernel
theorem dX3_dropFirst_32 : decode cX3_dropFirst 32 = .ok (.iastore, 1) := by decide +kernel
theorem dX3_dropFirst_33 : decode cX3_dropFirst 33 = .ok (.iinc 1 1, 3) := by decide +kernel
theorem dX3_dropFirst_36 : decode cX3_dropFirst 36 = .ok (.goto (-34), 3) := by decide +kernel
theorem dX3_dropFirst_39 : decode cX3_dropFirst 39 = .ok (.aload_n 0, 1) := by decide +kernel
theorem dX3_dropFirst_40 : decode cX3_dropFirst 40 = .ok (.getfield 24, 3) := by decide +kernel
theorem dX3_dropFirst_43 : decode cX3_dropFirst 43 = .ok (.ifCond .le 13, 3) := by decide +kernel
theorem dX3_dropFirst_46 : decode cX3_dropFirst 46 = .ok (.aload_n 0, 1) := by decide +kernel
theorem dX3_dropFirst_47 : decode cX3_dropFirst 47 = .ok (.dup, 1) := by decide +kernel
theorem dX3_dropFirst_48 : decode cX3_dropFirst 48 = .ok (.getfield 24, 3) := by decide +kernel
theorem dX3_dropFirst_51 : decode cX3_dropFirst 51 = .ok (.iconst 1, 1) := by decide +kernel
theorem dX3_dropFirst_52 : decode cX3_dropFirst 52 = .ok (.isub, 1) := by decide +kernel
theorem dX3_dropFirst_53 : decode cX3_dropFirst 53 = .ok (.putfield 24, 3) := by decide +kernel
theorem dX3_dropFirst_56 : decode cX3_dropFirst 56 = .ok (.return_, 1) := by decide +kernel
theorem dX3_isDue_0 : decode cX3_isDue 0 = .ok (.aload_n 0, 1) := by decide +kernel
theorem dX3_isDue_1 : decode cX3_isDue 1 = .ok (.getfield 24, 3) := by decide +kernel
theorem dX3_isDue_4 : decode cX3_isDue 4 = .ok (.aload_n 0, 1) := by decide +kernel
theorem dX3_isDue_5 : decode cX3_isDue 5 = .ok (.getfield 15, 3) := by decide +kernel
theorem dX3_isDue_8 : decode cX3_isDue 8 = .ok (.if_icmp .lt 5, 3) := by decide +kernel
theorem dX3_isDue_11 : decode cX3_isDue 11 = .ok (.iconst 1, 1) := by decide +kernel
theorem dX3_isDue_12 : decode cX3_isDue 12 = .ok (.ireturn, 1) := by decide +kernel
theorem dX3_isDue_13 : decode cX3_isDue 13 = .ok (.iconst 0, 1) := by decide +kernel
theorem dX3_isDue_14 : decode cX3_isDue 14 = .ok (.istore_n 2, 1) := by decide +kernel
theorem dX3_isDue_15 : decode cX3_isDue 15 = .ok (.iload_n 2, 1) := by decide +kernel
theorem dX3_isDue_16 : decode cX3_isDue 16 = .ok (.aload_n 0, 1) := by decide +kernel
theorem dX3_isDue_17 : decode cX3_isDue 17 = .ok (.getfield 24, 3) := by decide +kernel
theorem dX3_isDue_20 : decode cX3_isDue 20 = .ok (.if_icmp .ge 47, 3) := by decide +kernel
theorem dX3_isDue_23 : decode cX3_isDue 23 = .ok (.iload_n 2, 1) := by decide +kernel
theorem dX3_isDue_24 : decode cX3_isDue 24 = .ok (.aload_n 0, 1) := by decide +kernel
theorem dX3_isDue_25 : decode cX3_isDue 25 = .ok (.getfield 27, 3) := by decide +kernel
theorem dX3_isDue_28 : decode cX3_isDue 28 = .ok (.arraylength, 1) := by decide +kernel
theorem dX3_isDue_29 : decode cX3_isDue 29 = .ok (.if_icmp .ge 38, 3) := by decide +kernel
theorem dX3_isDue_32 : decode cX3_isDue 32 = .ok (.aload_n 0, 1) := by decide +kernel
theorem dX3_isDue_33 : decode cX3_isDue 33 = .ok (.getfield 27, 3) := by decide +kernel
theorem dX3_isDue_36 : decode cX3_isDue 36 = .ok (.iload_n 2, 1) := by decide +kernel
theorem dX3_isDue_37 : decode cX3_isDue 37 = .ok (.iaload, 1) := by decide +kernel
theorem dX3_isDue_38 : decode cX3_isDue 38 = .ok (.istore_n 3, 1) := by decide +kernel
theorem dX3_isDue_39 : decode cX3_isDue 39 = .ok (.iload_n 3, 1) := by decide +kernel
theorem dX3_isDue_40 : decode cX3_isDue 40 = .ok (.bipush 10, 2) := by decide +kernel
theorem dX3_isDue_42 : decode cX3_isDue 42 = .ok (.irem, 1) := by decide +kernel
theorem dX3_isDue_43 : decode cX3_isDue 43 = .ok (.ifCond .ne 16, 3) := by decide +kernel
theorem dX3_isDue_46 : decode cX3_isDue 46 = .ok (.iload_n 1, 1) := by decide +kernel
theorem dX3_isDue_47 : decode cX3_isDue 47 = .ok (.iload_n 3, 1) := by decide +kernel
theorem dX3_isDue_48 : decode cX3_isDue 48 = .ok (.bipush 10, 2) := by decide +kernel
theorem dX3_isDue_50 : decode cX3_isDue 50 = .ok (.idiv, 1) := by decide +kernel
theorem dX3_isDue_51 : decode cX3_isDue 51 = .ok (.isub, 1) := by decide +kernel
theorem dX3_isDue_52 : decode cX3_isDue 52 = .ok (.aload_n 0, 1) := by decide +kernel
theorem dX3_isDue_53 : decode cX3_isDue 53 = .ok (.getfield 18, 3) := by decide +kernel
theorem dX3_isDue_56 : decode cX3_isDue 56 = .ok (.if_icmp .lt 5, 3) := by decide +kernel
theorem dX3_isDue_59 : decode cX3_isDue 59 = .ok (.iconst 1, 1) := by decide +kernel
theorem dX3_isDue_60 : decode cX3_isDue 60 = .ok (.ireturn, 1) := by decide +kernel
theorem dX3_isDue_61 : decode cX3_isDue 61 = .ok (.iinc 2 1, 3) := by decide +kernel
theorem dX3_isDue_64 : decode cX3_isDue 64 = .ok (.goto (-49), 3) := by decide +kernel
theorem dX3_isDue_67 : decode cX3_isDue 67 = .ok (.iconst 0, 1) := by decide +kernel
theorem dX3_isDue_68 : decode cX3_isDue 68 = .ok (.ireturn, 1) := by decide +kernel
theorem dX4_init_0 : decode cX4_init 0 = .ok (.aload_n 0, 1) := by decide +kernel
theorem dX4_init_1 : decode cX4_init 1 = .ok (.invokespecial 3, 3) := by decide +kernel
theorem dX4_init_4 : decode cX4_init 4 = .ok (.aload_n 0, 1) := by decide +kernel
theorem dX4_init_5 : decode cX4_init 5 = .ok (.bipush 6, 2) := by decide +kernel
theorem dX4_init_7 : decode cX4_init 7 = .ok (.newarray .int, 2) := by decide +kernel
theorem dX4_init_9 : decode cX4_init 9 = .ok (.putfield 9, 3) := by decide +kernel
theorem dX4_init_12 : decode cX4_init 12 = .ok (.aload_n 0, 1) := by decide +kernel
theorem dX4_init_13 : decode cX4_init 13 = .ok (.bipush 6, 2) := by decide +kernel
theorem dX4_init_15 : decode cX4_init 15 = .ok (.newarray .int, 2) := by decide +kernel
theorem dX4_init_17 : decode cX4_init 17 = .ok (.putfield 15, 3) := by decide +kernel
theorem dX4_init_20 : decode cX4_init 20 = .ok (.aload_n 0, 1) := by decide +kernel
theorem dX4_init_21 : decode cX4_init 21 = .ok (.iconst 0, 1) := by decide +kernel
theorem dX4_init_22 : decode cX4_init 22 = .ok (.putfield 18, 3) := by decide +kernel
theorem dX4_init_25 : decode cX4_init 25 = .ok (.return_, 1) := by decide +kernel
theorem dX4_add_0 : decode cX4_add 0 = .ok (.aload_n 0, 1) := by decide +kernel
theorem dX4_add_1 : decode cX4_add 1 = .ok (.getfield 18, 3) := by decide +kernel
theorem dX4_add_4 : decode cX4_add 4 = .ok (.ifCond .lt 27, 3) := by decide +kernel
theorem dX4_add_7 : decode cX4_add 7 = .ok (.aload_n 0, 1) := by decide +kernel
theorem dX4_add_8 : decode cX4_add 8 = .ok (.getfield 18, 3) := by decide +kernel
theorem dX4_add_11 : decode cX4_add 11 = .ok (.aload_n 0, 1) := by decide +kernel
theorem dX4_add_12 : decode cX4_add 12 = .ok (.getfield 9, 3) := by decide +kernel
theorem dX4_add_15 : decode cX4_add 15 = .ok (.arraylength, 1) := by decide +kernel
theorem dX4_add_16 : decode cX4_add 16 = .ok (.if_icmp .ge 15, 3) := by decide +kernel
theorem dX4_add_19 : decode cX4_add 19 = .ok (.aload_n 0, 1) := by decide +kernel
theorem dX4_add_20 : decode cX4_add 20 = .ok (.getfield 18, 3) := by decide +kernel
theorem dX4_add_23 : decode cX4_add 23 = .ok (.aload_n 0, 1) := by decide +kernel
theorem dX4_add_24 : decode cX4_add 24 = .ok (.getfield 15, 3) := by decide +kernel
theorem dX4_add_27 : decode cX4_add 27 = .ok (.arraylength, 1) := by decide +kernel
theorem dX4_add_28 : decode cX4_add 28 = .ok (.if_icmp .lt 5, 3) := by decide +kernel
theorem dX4_add_31 : decode cX4_add 31 = .ok (.iconst 0, 1) := by decide +kernel
theorem dX4_add_32 : decode cX4_add 32 = .ok (.ireturn, 1) := by decide +kernel
theorem dX4_add_33 : decode cX4_add 33 = .ok (.aload_n 0, 1) := by decide +kernel
theorem dX4_add_34 : decode cX4_add 34 = .ok (.getfield 9, 3) := by decide +kernel
theorem dX4_add_37 : decode cX4_add 37 = .ok (.aload_n 0, 1) := by decide +kernel
theorem dX4_add_38 : decode cX4_add 38 = .ok (.getfield 18, 3) := by decide +kernel
theorem dX4_add_41 : decode cX4_add 41 = .ok (.iload_n 1, 1) := by decide +kernel
theorem dX4_add_42 : decode cX4_add 42 = .ok (.iastore, 1) := by decide +kernel
theorem dX4_add_43 : decode cX4_add 43 = .ok (.aload_n 0, 1) := by decide +kernel
theorem dX4_add_44 : decode cX4_add 44 = .ok (.getfield 15, 3) := by decide +kernel
theorem dX4_add_47 : decode cX4_add 47 = .ok (.aload_n 0, 1) := by decide +kernel
theorem dX4_add_48 : decode cX4_add 48 = .ok (.getfield 18, 3) := by decide +kernel
theorem dX4_add_51 : decode cX4_add 51 = .ok (.iload_n 2, 1) := by decide +kernel
theorem dX4_add_52 : decode cX4_add 52 = .ok (.iastore, 1) := by decide +kernel
theorem dX4_add_53 : decode cX4_add 53 = .ok (.aload_n 0, 1) := by decide +kernel
theorem dX4_add_54 : decode cX4_add 54 = .ok (.dup, 1) := by decide +kernel
theorem dX4_add_55 : decode cX4_add 55 = .ok (.getfield 18, 3) := by decide +kernel
theorem dX4_add_58 : decode cX4_add 58 = .ok (.iconst 1, 1) := by decide +kernel
theorem dX4_add_59 : decode cX4_add 59 = .ok (.iadd, 1) := by decide +kernel
theorem dX4_add_60 : decode cX4_add 60 = .ok (.putfield 18, 3) := by decide +kernel
theorem dX4_add_63 : decode cX4_add 63 = .ok (.iconst 1, 1) := by decide +kernel
theorem dX4_add_64 : decode cX4_add 64 = .ok (.ireturn, 1) := by decide +kernel
theorem dX4_timeAt_0 : decode cX4_timeAt 0 = .ok (.iload_n 1, 1) := by decide +kernel
theorem dX4_timeAt_1 : decode cX4_timeAt 1 = .ok (.ifCond .lt 21, 3) := by decide +kernel
theorem dX4_timeAt_4 : decode cX4_timeAt 4 = .ok (.iload_n 1, 1) := by decide +kernel
theorem dX4_timeAt_5 : decode cX4_timeAt 5 = .ok (.aload_n 0, 1) := by decide +kernel
theorem dX4_timeAt_6 : decode cX4_timeAt 6 = .ok (.getfield 9, 3) := by decide +kernel
theorem dX4_timeAt_9 : decode cX4_timeAt 9 = .ok (.arraylength, 1) := by decide +kernel
theorem dX4_timeAt_10 : decode cX4_timeAt 10 = .ok (.if_icmp .ge 12, 3) := by decide +kernel
theorem dX4_timeAt_13 : decode cX4_timeAt 13 = .ok (.aload_n 0, 1) := by decide +kernel
theorem dX4_timeAt_14 : decode cX4_timeAt 14 = .ok (.getfield 9, 3) := by decide +kernel
theorem dX4_timeAt_17 : decode cX4_timeAt 17 = .ok (.iload_n 1, 1) := by decide +kernel
theorem dX4_timeAt_18 : decode cX4_timeAt 18 = .ok (.iaload, 1) := by decide +kernel
theorem dX4_timeAt_19 : decode cX4_timeAt 19 = .ok (.goto 4, 3) := by decide +kernel
theorem dX4_timeAt_22 : decode cX4_timeAt 22 = .ok (.iconst 0, 1) := by decide +kernel
theorem dX4_timeAt_23 : decode cX4_timeAt 23 = .ok (.ireturn, 1) := by decide +kernel
theorem dX4_phaseAt_0 : decode cX4_phaseAt 0 = .ok (.iload_n 1, 1) := by decide +kernel
theorem dX4_phaseAt_1 : decode cX4_phaseAt 1 = .ok (.ifCond .lt 21, 3) := by decide +kernel
theorem dX4_phaseAt_4 : decode cX4_phaseAt 4 = .ok (.iload_n 1, 1) := by decide +kernel
theorem dX4_phaseAt_5 : decode cX4_phaseAt 5 = .ok (.aload_n 0, 1) := by decide +kernel
theorem dX4_phaseAt_6 : decode cX4_phaseAt 6 = .ok (.getfield 15, 3) := by decide +kernel
theorem dX4_phaseAt_9 : decode cX4_phaseAt 9 = .ok (.arraylength, 1) := by decide +kernel
theorem dX4_phaseAt_10 : decode cX4_phaseAt 10 = .ok (.if_icmp .ge 12, 3) := by decide +kernel
theorem dX4_phaseAt_13 : decode cX4_phaseAt 13 = .ok (.aload_n 0, 1) := by decide +kernel
theorem dX4_phaseAt_14 : decode cX4_phaseAt 14 = .ok (.getfield 15, 3) := by decide +kernel
theorem dX4_phaseAt_17 : decode cX4_phaseAt 17 = .ok (.iload_n 1, 1) := by decide +kernel
theorem dX4_phaseAt_18 : decode cX4_phaseAt 18 = .ok (.iaload, 1) := by decide +kernel
theorem dX4_phaseAt_19 : decode cX4_phaseAt 19 = .ok (.goto 5, 3) := by decide +kernel
theorem dX4_phaseAt_22 : decode cX4_phaseAt 22 = .ok (.bipush (-9), 2) := by decide +kernel
theorem dX4_phaseAt_24 : decode cX4_phaseAt 24 = .ok (.ireturn, 1) := by decide +kernel
theorem dX5_init_0 : decode cX5_init 0 = .ok (.aload_n 0, 1) := by decide +kernel
theorem dX5_init_1 : decode cX5_init 1 = .ok (.invokespecial 1, 3) := by decide +kernel
theorem dX5_init_4 : decode cX5_init 4 = .ok (.aload_n 0, 1) := by decide +kernel
theorem dX5_init_5 : decode cX5_init 5 = .ok (.new 7, 3) := by decide +kernel
theorem dX5_init_8 : decode cX5_init 8 = .ok (.dup, 1) := by decide +kernel
theorem dX5_init_9 : decode cX5_init 9 = .ok (.invokespecial 9, 3) := by decide +kernel
theorem dX5_init_12 : decode cX5_init 12 = .ok (.putfield 10, 3) := by decide +kernel
theorem dX5_init_15 : decode cX5_init 15 = .ok (.aload_n 0, 1) := by decide +kernel
theorem dX5_init_16 : decode cX5_init 16 = .ok (.iconst 0, 1) := by decide +kernel
theorem dX5_init_17 : decode cX5_init 17 = .ok (.putfield 16, 3) := by decide +kernel
theorem dX5_init_20 : decode cX5_init 20 = .ok (.return_, 1) := by decide +kernel
theorem dX6_init_0 : decode cX6_init 0 = .ok (.aload_n 0, 1) := by decide +kernel
theorem dX6_init_1 : decode cX6_init 1 = .ok (.invokespecial 3, 3) := by decide +kernel
theorem dX6_init_4 : decode cX6_init 4 = .ok (.aload_n 0, 1) := by decide +kernel
theorem dX6_init_5 : decode cX6_init 5 = .ok (.bipush 80, 2) := by decide +kernel
theorem dX6_init_7 : decode cX6_init 7 = .ok (.newarray .int, 2) := by decide +kernel
theorem dX6_init_9 : decode cX6_init 9 = .ok (.putfield 9, 3) := by decide +kernel
theorem dX6_init_12 : decode cX6_init 12 = .ok (.aload_n 0, 1) := by decide +kernel
theorem dX6_init_13 : decode cX6_init 13 = .ok (.iconst 0, 1) := by decide +kernel
theorem dX6_init_14 : decode cX6_init 14 = .ok (.putfield 15, 3) := by decide +kernel
theorem dX6_init_17 : decode cX6_init 17 = .ok (.return_, 1) := by decide +kernel
theorem dX6_append_0 : decode cX6_append 0 = .ok (.aload_n 0, 1) := by decide +kernel
theorem dX6_append_1 : decode cX6_append 1 = .ok (.getfield 15, 3) := by decide +kernel
theorem dX6_append_4 : decode cX6_append 4 = .ok (.ifCond .lt 15, 3) := by decide +kernel
theorem dX6_append_7 : decode cX6_append 7 = .ok (.aload_n 0, 1) := by decide +kernel
theorem dX6_append_8 : decode cX6_append 8 = .ok (.getfield 15, 3) := by decide +kernel
theorem dX6_append_11 : decode cX6_append 11 = .ok (.aload_n 0, 1) := by decide +kernel
theorem dX6_append_12 : decode cX6_append 12 = .ok (.getfield 9, 3) := by decide +kernel
theorem dX6_append_15 : decode cX6_append 15 = .ok (.arraylength, 1) := by decide +kernel
theorem dX6_append_16 : decode cX6_append 16 = .ok (.if_icmp .lt 5, 3) := by decide +kernel
theorem dX6_append_19 : decode cX6_append 19 = .ok (.iconst 0, 1) := by decide +kernel
theorem dX6_append_20 : decode cX6_append 20 = .ok (.ireturn, 1) := by decide +kernel
theorem dX6_append_21 : decode cX6_append 21 = .ok (.aload_n 0, 1) := by decide +kernel
theorem dX6_append_22 : decode cX6_append 22 = .ok (.getfield 9, 3) := by decide +kernel
theorem dX6_append_25 : decode cX6_append 25 = .ok (.aload_n 0, 1) := by decide +kernel
theorem dX6_append_26 : decode cX6_append 26 = .ok (.getfield 15, 3) := by decide +kernel
theorem dX6_append_29 : decode cX6_append 29 = .ok (.iload_n 1, 1) := by decide +kernel
theorem dX6_append_30 : decode cX6_append 30 = .ok (.iastore, 1) := by decide +kernel
theorem dX6_append_31 : decode cX6_append 31 = .ok (.aload_n 0, 1) := by decide +kernel
theorem dX6_append_32 : decode cX6_append 32 = .ok (.dup, 1) := by decide +kernel
theorem dX6_append_33 : decode cX6_append 33 = .ok (.getfield 15, 3) := by decide +kernel
theorem dX6_append_36 : decode cX6_append 36 = .ok (.iconst 1, 1) := by decide +kernel
theorem dX6_append_37 : decode cX6_append 37 = .ok (.iadd, 1) := by decide +kernel
theorem dX6_append_38 : decode cX6_append 38 = .ok (.putfield 15, 3) := by decide +kernel
theorem dX6_append_41 : decode cX6_append 41 = .ok (.iconst 1, 1) := by decide +kernel
theorem dX6_append_42 : decode cX6_append 42 = .ok (.ireturn, 1) := by decide +kernel
theorem dX6_signAt_0 : decode cX6_signAt 0 = .ok (.iload_n 1, 1) := by decide +kernel
theorem dX6_signAt_1 : decode cX6_signAt 1 = .ok (.ifCond .lt 29, 3) := by decide +kernel
theorem dX6_signAt_4 : decode cX6_signAt 4 = .ok (.iload_n 1, 1) := by decide +kernel
theorem dX6_signAt_5 : decode cX6_signAt 5 = .ok (.aload_n 0, 1) := by decide +kernel
theorem dX6_signAt_6 : decode cX6_signAt 6 = .ok (.getfield 15, 3) := by decide +kernel
theorem dX6_signAt_9 : decode cX6_signAt 9 = .ok (.if_icmp .ge 21, 3) := by decide +kernel
theorem dX6_signAt_12 : decode cX6_signAt 12 = .ok (.iload_n 1, 1) := by decide +kernel
theorem dX6_signAt_13 : decode cX6_signAt 13 = .ok (.aload_n 0, 1) := by decide +kernel
theorem dX6_signAt_14 : decode cX6_signAt 14 = .ok (.getfield 9, 3) := by decide +kernel
theorem dX6_signAt_17 : decode cX6_signAt 17 = .ok (.arraylength, 1) := by decide +kernel
theorem dX6_signAt_18 : decode cX6_signAt 18 = .ok (.if_icmp .ge 12, 3) := by decide +kernel
theorem dX6_signAt_21 : decode cX6_signAt 21 = .ok (.aload_n 0, 1) := by decide +kernel
theorem dX6_signAt_22 : decode cX6_signAt 22 = .ok (.getfield 9, 3) := by decide +kernel
theorem dX6_signAt_25 : decode cX6_signAt 25 = .ok (.iload_n 1, 1) := by decide +kernel
theorem dX6_signAt_26 : decode cX6_signAt 26 = .ok (.iaload, 1) := by decide +kernel
theorem dX6_signAt_27 : decode cX6_signAt 27 = .ok (.goto 4, 3) := by decide +kernel
theorem dX6_signAt_30 : decode cX6_signAt 30 = .ok (.iconst 0, 1) := by decide +kernel
theorem dX6_signAt_31 : decode cX6_signAt 31 = .ok (.ireturn, 1) := by decide +kernel
theorem dX6_figureAt_0 : decode cX6_figureAt 0 = .ok (.aload_n 0, 1) := by decide +kernel
theorem dX6_figureAt_1 : decode cX6_figureAt 1 = .ok (.iload_n 1, 1) := by decide +kernel
theorem dX6_figureAt_2 : decode cX6_figureAt 2 = .ok (.invokevirtual 19, 3) := by decide +kernel
theorem dX6_figureAt_5 : decode cX6_figureAt 5 = .ok (.bipush 48, 2) := by decide +kernel
theorem dX6_figureAt_7 : decode cX6_figureAt 7 = .ok (.isub, 1) := by decide +kernel
theorem dX6_figureAt_8 : decode cX6_figureAt 8 = .ok (.ireturn, 1) := by decide +kernel
theorem dX6_faultPlace_0 : decode cX6_faultPlace 0 = .ok (.iconst 0, 1) := by decide +kernel
theorem dX6_faultPlace_1 : decode cX6_faultPlace 1 = .ok (.istore_n 1, 1) := by decide +kernel
theorem dX6_faultPlace_2 : decode cX6_faultPlace 2 = .ok (.iload_n 1, 1) := by decide +kernel
theorem dX6_faultPlace_3 : decode cX6_faultPlace 3 = .ok (.aload_n 0, 1) := by decide +kernel
theorem dX6_faultPlace_4 : decode cX6_faultPlace 4 = .ok (.getfield 15, 3) := by decide +kernel
theorem dX6_faultPlace_7 : decode cX6_faultPlace 7 = .ok (.if_icmp .ge 23, 3) := by decide +kernel
theorem dX6_faultPlace_10 : decode cX6_faultPlace 10 = .ok (.iload_n 1, 1) := by decide +kernel
theorem dX6_faultPlace_11 : decode cX6_faultPlace 11 = .ok (.aload_n 0, 1) := by decide +kernel
theorem dX6_faultPlace_12 : decode cX6_faultPlace 12 = .ok (.iload_n 1, 1) := by decide +kernel
theorem dX6_faultPlace_13 : decode cX6_faultPlace 13 = .ok (.invokevirtual 19, 3) := by decide +kernel
theorem dX6_faultPlace_16 : decode cX6_faultPlace 16 = .ok (.invokestatic 23, 3) := by decide +kernel
theorem dX6_faultPlace_19 : decode cX6_faultPlace 19 = .ok (.ifCond .ne 5, 3) := by decide +kernel
theorem dX6_faultPlace_22 : decode cX6_faultPlace 22 = .ok (.iload_n 1, 1) := by decide +kernel
theorem dX6_faultPlace_23 : decode cX6_faultPlace 23 = .ok (.ireturn, 1) := by decide +kernel
theorem dX6_faultPlace_24 : decode cX6_faultPlace 24 = .ok (.iinc 1 1, 3) := by decide +kernel
theorem dX6_faultPlace_27 : decode cX6_faultPlace 27 = .ok (.goto (-25), 3) := by decide +kernel
theorem dX6_faultPlace_30 : decode cX6_faultPlace 30 = .ok (.aload_n 0, 1) := by decide +kernel
theorem dX6_faultPlace_31 : decode cX6_faultPlace 31 = .ok (.getfield 15, 3) := by decide +kernel
theorem dX6_faultPlace_34 : decode cX6_faultPlace 34 = .ok (.bipush 9, 2) := by decide +kernel
theorem dX6_faultPlace_36 : decode cX6_faultPlace 36 = .ok (.if_icmp .ge 10, 3) := by decide +kernel
theorem dX6_faultPlace_39 : decode cX6_faultPlace 39 = .ok (.aload_n 0, 1) := by decide +kernel
theorem dX6_faultPlace_40 : decode cX6_faultPlace 40 = .ok (.getfield 15, 3) := by decide +kernel
theorem dX6_faultPlace_43 : decode cX6_faultPlace 43 = .ok (.goto 5, 3) := by decide +kernel
theorem dX6_faultPlace_46 : decode cX6_faultPlace 46 = .ok (.bipush (-9), 2) := by decide +kernel
theorem dX6_faultPlace_48 : decode cX6_faultPlace 48 = .ok (.ireturn, 1) := by decide +kernel
theorem dX6_mayStand_0 : decode cX6_mayStand 0 = .ok (.iload_n 0, 1) := by decide +kernel
theorem dX6_mayStand_1 : decode cX6_mayStand 1 = .ok (.ifCond .ne 15, 3) := by decide +kernel
theorem dX6_mayStand_4 : decode cX6_mayStand 4 = .ok (.iload_n 1, 1) := by decide +kernel
theorem dX6_mayStand_5 : decode cX6_mayStand 5 = .ok (.bipush 76, 2) := by decide +kernel
theorem dX6_mayStand_7 : decode cX6_mayStand 7 = .ok (.if_icmp .ne 7, 3) := by decide +kernel
theorem dX6_mayStand_10 : decode cX6_mayStand 10 = .ok (.iconst 1, 1) := by decide +kernel
theorem dX6_mayStand_11 : decode cX6_mayStand 11 = .ok (.goto 4, 3) := by decide +kernel
theorem dX6_mayStand_14 : decode cX6_mayStand 14 = .ok (.iconst 0, 1) := by decide +kernel
theorem dX6_mayStand_15 : decode cX6_mayStand 15 = .ok (.ireturn, 1) := by decide +kernel
theorem dX6_mayStand_16 : decode cX6_mayStand 16 = .ok (.iload_n 0, 1) := by decide +kernel
theorem dX6_mayStand_17 : decode cX6_mayStand 17 = .ok (.iconst 2, 1) := by decide +kernel
theorem dX6_mayStand_18 : decode cX6_mayStand 18 = .ok (.if_icmp .ne 11, 3) := by decide +kernel
theorem dX6_mayStand_21 : decode cX6_mayStand 21 = .ok (.iload_n 1, 1) := by decide +kernel
theorem dX6_mayStand_22 : decode cX6_mayStand 22 = .ok (.bipush 49, 2) := by decide +kernel
theorem dX6_mayStand_24 : decode cX6_mayStand 24 = .ok (.if_icmp .ne 5, 3) := by decide +kernel
theorem dX6_mayStand_27 : decode cX6_mayStand 27 = .ok (.iconst 0, 1) := by decide +kernel
theorem dX6_mayStand_28 : decode cX6_mayStand 28 = .ok (.ireturn, 1) := by decide +kernel
theorem dX6_mayStand_29 : decode cX6_mayStand 29 = .ok (.iload_n 1, 1) := by decide +kernel
theorem dX6_mayStand_30 : decode cX6_mayStand 30 = .ok (.bipush 48, 2) := by decide +kernel
theorem dX6_mayStand_32 : decode cX6_mayStand 32 = .ok (.isub, 1) := by decide +kernel
theorem dX6_mayStand_33 : decode cX6_mayStand 33 = .ok (.invokestatic 27, 3) := by decide +kernel
theorem dX6_mayStand_36 : decode cX6_mayStand 36 = .ok (.ifCond .ne 21, 3) := by decide +kernel
theorem dX6_mayStand_39 : decode cX6_mayStand 39 = .ok (.iload_n 0, 1) := by decide +kernel
theorem dX6_mayStand_40 : decode cX6_mayStand 40 = .ok (.bipush 9, 2) := by decide +kernel
theorem dX6_mayStand_42 : decode cX6_mayStand 42 = .ok (.if_icmp .lt 19, 3) := by decide +kernel
theorem dX6_mayStand_45 : decode cX6_mayStand 45 = .ok (.iload_n 1, 1) := by decide +kernel
theorem dX6_mayStand_46 : decode cX6_mayStand 46 = .ok (.bipush 97, 2) := by decide +kernel
theorem dX6_mayStand_48 : decode cX6_mayStand 48 = .ok (.if_icmp .eq 9, 3) := by decide +kernel
theorem dX6_mayStand_51 : decode cX6_mayStand 51 = .ok (.iload_n 1, 1) := by decide +kernel
theorem dX6_mayStand_52 : decode cX6_mayStand 52 = .ok (.bipush 98, 2) := by decide +kernel
theorem dX6_mayStand_54 : decode cX6_mayStand 54 = .ok (.if_icmp .ne 7, 3) := by decide +kernel
theorem dX6_mayStand_57 : decode cX6_mayStand 57 = .ok (.iconst 1, 1) := by decide +kernel
theorem dX6_mayStand_58 : decode cX6_mayStand 58 = .ok (.goto 4, 3) := by decide +kernel
theorem dX6_mayStand_61 : decode cX6_mayStand 61 = .ok (.iconst 0, 1) := by decide +kernel
theorem dX6_mayStand_62 : decode cX6_mayStand 62 = .ok (.ireturn, 1) := by decide +kernel
theorem dX7_init_0 : decode cX7_init 0 = .ok (.aload_n 0, 1) := by decide +kernel
theorem dX7_init_1 : decode cX7_init 1 = .ok (.invokespecial 1, 3) := by decide +kernel
theorem dX7_init_4 : decode cX7_init 4 = .ok (.aload_n 0, 1) := by decide +kernel
theorem dX7_init_5 : decode cX7_init 5 = .ok (.new 7, 3) := by decide +kernel
theorem dX7_init_8 : decode cX7_init 8 = .ok (.dup, 1) := by decide +kernel
theorem dX7_init_9 : decode cX7_init 9 = .ok (.invokespecial 9, 3) := by decide +kernel
theorem dX7_init_12 : decode cX7_init 12 = .ok (.putfield 10, 3) := by decide +kernel
theorem dX7_init_15 : decode cX7_init 15 = .ok (.aload_n 0, 1) := by decide +kernel
theorem dX7_init_16 : decode cX7_init 16 = .ok (.new 16, 3) := by decide +kernel
theorem dX7_init_19 : decode cX7_init 19 = .ok (.dup, 1) := by decide +kernel
theorem dX7_init_20 : decode cX7_init 20 = .ok (.invokespecial 18, 3) := by decide +kernel
theorem dX7_init_23 : decode cX7_init 23 = .ok (.putfield 19, 3) := by decide +kernel
theorem dX7_init_26 : decode cX7_init 26 = .ok (.aload_n 0, 1) := by decide +kernel
theorem dX7_init_27 : decode cX7_init 27 = .ok (.new 23, 3) := by decide +kernel
theorem dX7_init_30 : decode cX7_init 30 = .ok (.dup, 1) := by decide +kernel
theorem dX7_init_31 : decode cX7_init 31 = .ok (.invokespecial 25, 3) := by decide +kernel
theorem dX7_init_34 : decode cX7_init 34 = .ok (.putfield 26, 3) := by decide +kernel
theorem dX7_init_37 : decode cX7_init 37 = .ok (.aload_n 0, 1) := by decide +kernel
theorem dX7_init_38 : decode cX7_init 38 = .ok (.new 23, 3) := by decide +kernel
theorem dX7_init_41 : decode cX7_init 41 = .ok (.dup, 1) := by decide +kernel
theorem dX7_init_42 : decode cX7_init 42 = .ok (.invokespecial 25, 3) := by decide +kernel
theorem dX7_init_45 : decode cX7_init 45 = .ok (.putfield 30, 3) := by decide +kernel
theorem dX7_init_48 : decode cX7_init 48 = .ok (.aload_n 0, 1) := by decide +kernel
theorem dX7_init_49 : decode cX7_init 49 = .ok (.new 33, 3) := by decide +kernel
theorem dX7_init_52 : decode cX7_init 52 = .ok (.dup, 1) := by decide +kernel
theorem dX7_init_53 : decode cX7_init 53 = .ok (.invokespecial 35, 3) := by decide +kernel
theorem dX7_init_56 : decode cX7_init 56 = .ok (.putfield 36, 3) := by decide +kernel
theorem dX7_init_59 : decode cX7_init 59 = .ok (.aload_n 0, 1) := by decide +kernel
theorem dX7_init_60 : decode cX7_init 60 = .ok (.new 40, 3) := by decide +kernel
theorem dX7_init_63 : decode cX7_init 63 = .ok (.dup, 1) := by decide +kernel
theorem dX7_init_64 : decode cX7_init 64 = .ok (.invokespecial 42, 3) := by decide +kernel
theorem dX7_init_67 : decode cX7_init 67 = .ok (.putfield 43, 3) := by decide +kernel
theorem dX7_init_70 : decode cX7_init 70 = .ok (.aload_n 0, 1) := by decide +kernel
theorem dX7_init_71 : decode cX7_init 71 = .ok (.new 47, 3) := by decide +kernel
theorem dX7_init_74 : decode cX7_init 74 = .ok (.dup, 1) := by decide +kernel
theorem dX7_init_75 : decode cX7_init 75 = .ok (.invokespecial 49, 3) := by decide +kernel
theorem dX7_init_78 : decode cX7_init 78 = .ok (.putfield 50, 3) := by decide +kernel
theorem dX7_init_81 : decode cX7_init 81 = .ok (.aload_n 0, 1) := by decide +kernel
theorem dX7_init_82 : decode cX7_init 82 = .ok (.new 47, 3) := by decide +kernel
theorem dX7_init_85 : decode cX7_init 85 = .ok (.dup, 1) := by decide +kernel
theorem dX7_init_86 : decode cX7_init 86 = .ok (.invokespecial 49, 3) := by decide +kernel
theorem dX7_init_89 : decode cX7_init 89 = .ok (.putfield 54, 3) := by decide +kernel
theorem dX7_init_92 : decode cX7_init 92 = .ok (.aload_n 0, 1) := by decide +kernel
theorem dX7_init_93 : decode cX7_init 93 = .ok (.lconst 0, 1) := by decide +kernel
theorem dX7_init_94 : decode cX7_init 94 = .ok (.putfield 57, 3) := by decide +kernel
theorem dX7_init_97 : decode cX7_init 97 = .ok (.return_, 1) := by decide +kernel
theorem dX7_write_0 : decode cX7_write 0 = .ok (.iload_n 1, 1) := by decide +kernel
theorem dX7_write_1 : decode cX7_write 1 = .ok (.iconst 0, 1) := by decide +kernel
theorem dX7_write_2 : decode cX7_write 2 = .ok (.sipush 255, 3) := by decide +kernel
theorem dX7_write_5 : decode cX7_write 5 = .ok (.invokestatic 61, 3) := by decide +kernel
theorem dX7_write_8 : decode cX7_write 8 = .ok (.ifCond .ne 6, 3) := by decide +kernel
theorem dX7_write_11 : decode cX7_write 11 = .ok (.bipush (-2), 2) := by decide +kernel
theorem dX7_write_13 : decode cX7_write 13 = .ok (.ireturn, 1) := by decide +kernel
theorem dX7_write_14 : decode cX7_write 14 = .ok (.aload_n 0, 1) := by decide +kernel
theorem dX7_write_15 : decode cX7_write 15 = .ok (.getfield 10, 3) := by decide +kernel
theorem dX7_write_18 : decode cX7_write 18 = .ok (.iload_n 1, 1) := by decide +kernel
theorem dX7_write_19 : decode cX7_write 19 = .ok (.invokevirtual 65, 3) := by decide +kernel
theorem dX7_write_22 : decode cX7_write 22 = .ok (.ifCond .eq 13, 3) := by decide +kernel
theorem dX7_write_25 : decode cX7_write 25 = .ok (.aload_n 0, 1) := by decide +kernel
theorem dX7_write_26 : decode cX7_write 26 = .ok (.getfield 10, 3) := by decide +kernel
theorem dX7_write_29 : decode cX7_write 29 = .ok (.getfield 69, 3) := by decide +kernel
theorem dX7_write_32 : decode cX7_write 32 = .ok (.goto 5, 3) := by decide +kernel
theorem dX7_write_35 : decode cX7_write 35 = .ok (.bipush (-4), 2) := by decide +kernel
theorem dX7_write_37 : decode cX7_write 37 = .ok (.ireturn, 1) := by decide +kernel
theorem dX7_wipe_0 : decode cX7_wipe 0 = .ok (.aload_n 0, 1) := by decide +kernel
theorem dX7_wipe_1 : decode cX7_wipe 1 = .ok (.getfield 10, 3) := by decide +kernel
theorem dX7_wipe_4 : decode cX7_wipe 4 = .ok (.getfield 69, 3) := by decide +kernel
theorem dX7_wipe_7 : decode cX7_wipe 7 = .ok (.istore_n 1, 1) := by decide +kernel
theorem dX7_wipe_8 : decode cX7_wipe 8 = .ok (.aload_n 0, 1) := by decide +kernel
theorem dX7_wipe_9 : decode cX7_wipe 9 = .ok (.getfield 10, 3) := by decide +kernel
theorem dX7_wipe_12 : decode cX7_wipe 12 = .ok (.iconst 0, 1) := by decide +kernel
theorem dX7_wipe_13 : decode cX7_wipe 13 = .ok (.putfield 69, 3) := by decide +kernel
theorem dX7_wipe_16 : decode cX7_wipe 16 = .ok (.iload_n 1, 1) := by decide +kernel
theorem dX7_wipe_17 : decode cX7_wipe 17 = .ok (.ireturn, 1) := by decide +kernel
theorem dX7_fault_0 : decode cX7_fault 0 = .ok (.aload_n 0, 1) := by decide +kernel
theorem dX7_fault_1 : decode cX7_fault 1 = .ok (.getfield 10, 3) := by decide +kernel
theorem dX7_fault_4 : decode cX7_fault 4 = .ok (.invokevirtual 73, 3) := by decide +kernel
theorem dX7_fault_7 : decode cX7_fault 7 = .ok (.ireturn, 1) := by decide +kernel
theorem dX7_link_0 : decode cX7_link 0 = .ok (.aload_n 0, 1) := by decide +kernel
theorem dX7_link_1 : decode cX7_link 1 = .ok (.getfield 10, 3) := by decide +kernel
theorem dX7_link_4 : decode cX7_link 4 = .ok (.invokevirtual 73, 3) := by decide +kernel
theorem dX7_link_7 : decode cX7_link 7 = .ok (.bipush (-9), 2) := by decide +kernel
theorem dX7_link_9 : decode cX7_link 9 = .ok (.if_icmp .eq 6, 3) := by decide +kernel
theorem dX7_link_12 : decode cX7_link 12 = .ok (.bipush (-3), 2) := by decide +kernel
theorem dX7_link_14 : decode cX7_link 14 = .ok (.ireturn, 1) := by decide +kernel
theorem dX7_link_15 : decode cX7_link 15 = .ok (.aload_n 0, 1) := by decide +kernel
theorem dX7_link_16 : decode cX7_link 16 = .ok (.getfield 19, 3) := by decide +kernel
theorem dX7_link_19 : decode cX7_link 19 = .ok (.aload_n 0, 1) := by decide +kernel
theorem dX7_link_20 : decode cX7_link 20 = .ok (.getfield 10, 3) := by decide +kernel
theorem dX7_link_23 : decode cX7_link 23 = .ok (.invokevirtual 77, 3) := by decide +kernel
theorem dX7_link_26 : decode cX7_link 26 = .ok (.aload_n 0, 1) := by decide +kernel
theorem dX7_link_27 : decode cX7_link 27 = .ok (.getfield 26, 3) := by decide +kernel
theorem dX7_link_30 : decode cX7_link 30 = .ok (.aload_n 0, 1) := by decide +kernel
theorem dX7_link_31 : decode cX7_link 31 = .ok (.getfield 19, 3) := by decide +kernel
theorem dX7_link_34 : decode cX7_link 34 = .ok (.getfield 81, 3) := by decide +kernel
theorem dX7_link_37 : decode cX7_link 37 = .ok (.invokevirtual 84, 3) := by decide +kernel
theorem dX7_link_40 : decode cX7_link 40 = .ok (.aload_n 0, 1) := by decide +kernel
theorem dX7_link_41 : decode cX7_link 41 = .ok (.getfield 19, 3) := by decide +kernel
theorem dX7_link_44 : decode cX7_link 44 = .ok (.aload_n 0, 1) := by decide +kernel
theorem dX7_link_45 : decode cX7_link 45 = .ok (.getfield 26, 3) := by decide +kernel
theorem dX7_link_48 : decode cX7_link 48 = .ok (.iconst 0, 1) := by decide +kernel
theorem dX7_link_49 : decode cX7_link 49 = .ok (.invokevirtual 87, 3) := by decide +kernel
theorem dX7_link_52 : decode cX7_link 52 = .ok (.aload_n 0, 1) := by decide +kernel
theorem dX7_link_53 : decode cX7_link 53 = .ok (.getfield 36, 3) := by decide +kernel
theorem dX7_link_56 : decode cX7_link 56 = .ok (.iconst 0, 1) := by decide +kernel
theorem dX7_link_57 : decode cX7_link 57 = .ok (.putfield 91, 3) := by decide +kernel
theorem dX7_link_60 : decode cX7_link 60 = .ok (.aload_n 0, 1) := by decide +kernel
theorem dX7_link_61 : decode cX7_link 61 = .ok (.getfield 50, 3) := by decide +kernel
theorem dX7_link_64 : decode cX7_link 64 = .ok (.iconst 0, 1) := by decide +kernel
theorem dX7_link_65 : decode cX7_link 65 = .ok (.putfield 92, 3) := by decide +kernel
theorem dX7_link_68 : decode cX7_link 68 = .ok (.aload_n 0, 1) := by decide +kernel
theorem dX7_link_69 : decode cX7_link 69 = .ok (.getfield 54, 3) := by decide +kernel
theorem dX7_link_72 : decode cX7_link 72 = .ok (.iconst 0, 1) := by decide +kernel
theorem dX7_link_73 : decode cX7_link 73 = .ok (.putfield 92, 3) := by decide +kernel
theorem dX7_link_76 : decode cX7_link 76 = .ok (.aload_n 0, 1) := by decide +kernel
theorem dX7_link_77 : decode cX7_link 77 = .ok (.getfield 26, 3) := by decide +kernel
theorem dX7_link_80 : decode cX7_link 80 = .ok (.getfield 96, 3) := by decide +kernel
theorem dX7_link_83 : decode cX7_link 83 = .ok (.ireturn, 1) := by decide +kernel
theorem dX7_ask_0 : decode cX7_ask 0 = .ok (.iload_n 1, 1) := by decide +kernel
theorem dX7_ask_1 : decode cX7_ask 1 = .ok (.bipush 10, 2) := by decide +kernel
theorem dX7_ask_3 : decode cX7_ask 3 = .ok (.if_icmp .ne 8, 3) := by decide +kernel
theorem dX7_ask_6 : decode cX7_ask 6 = .ok (.aload_n 0, 1) := by decide +kernel
theorem dX7_ask_7 : decode cX7_ask 7 = .ok (.invokevirtual 99, 3) := by decide +kernel
theorem dX7_ask_10 : decode cX7_ask 10 = .ok (.ireturn, 1) := by decide +kernel
theorem dX7_ask_11 : decode cX7_ask 11 = .ok (.iload_n 1, 1) := by decide +kernel
theorem dX7_ask_12 : decode cX7_ask 12 = .ok (.iconst 0, 1) := by decide +kernel
theorem dX7_ask_13 : decode cX7_ask 13 = .ok (.bipush 9, 2) := by decide +kernel
theorem dX7_ask_15 : decode cX7_ask 15 = .ok (.invokestatic 61, 3) := by decide +kernel
theorem dX7_ask_18 : decode cX7_ask 18 = .ok (.ifCond .eq 14, 3) := by decide +kernel
theorem dX7_ask_21 : decode cX7_ask 21 = .ok (.aload_n 0, 1) := by decide +kernel
theorem dX7_ask_22 : decode cX7_ask 22 = .ok (.getfield 26, 3) := by decide +kernel
theorem dX7_ask_25 : decode cX7_ask 25 = .ok (.iload_n 1, 1) := by decide +kernel
theorem dX7_ask_26 : decode cX7_ask 26 = .ok (.invokevirtual 102, 3) := by decide +kernel
theorem dX7_ask_29 : decode cX7_ask 29 = .ok (.goto 5, 3) := by decide +kernel
theorem dX7_ask_32 : decode cX7_ask 32 = .ok (.bipush (-2), 2) := by decide +kernel
theorem dX7_ask_34 : decode cX7_ask 34 = .ok (.ireturn, 1) := by decide +kernel
theorem dX7_end_0 : decode cX7_end 0 = .ok (.iload_n 1, 1) := by decide +kernel
theorem dX7_end_1 : decode cX7_end 1 = .ok (.invokestatic 106, 3) := by decide +kernel
theorem dX7_end_4 : decode cX7_end 4 = .ok (.ifCond .ne 5, 3) := by decide +kernel
theorem dX7_end_7 : decode cX7_end 7 = .ok (.iconst (-1), 1) := by decide +kernel
theorem dX7_end_8 : decode cX7_end 8 = .ok (.ireturn, 1) := by decide +kernel
theorem dX7_end_9 : decode cX7_end 9 = .ok (.aload_n 0, 1) := by decide +kernel
theorem dX7_end_10 : decode cX7_end 10 = .ok (.getfield 26, 3) := by decide +kernel
theorem dX7_end_13 : decode cX7_end 13 = .ok (.iload_n 1, 1) := by decide +kernel
theorem dX7_end_14 : decode cX7_end 14 = .ok (.invokevirtual 109, 3) := by decide +kernel
theorem dX7_end_17 : decode cX7_end 17 = .ok (.astore_n 3, 1) := by decide +kernel
theorem dX7_end_18 : decode cX7_end 18 = .ok (.iload_n 2, 1) := by decide +kernel
theorem dX7_end_19 : decode cX7_end 19 = .ok (.tableswitch 92 0 6 #[41, 46, 51, 56, 61, 66, 86], 41) := by decide +kernel
theorem dX7_end_60 : decode cX7_end 60 = .ok (.aload_n 3, 1) := by decide +kernel
theorem dX7_end_61 : decode cX7_end 61 = .ok (.getfield 113, 3) := by decide +kernel
theorem dX7_end_64 : decode cX7_end 64 = .ok (.ireturn, 1) := by decide +kernel
theorem dX7_end_65 : decode cX7_end 65 = .ok (.aload_n 3, 1) := by decide +kernel
theorem dX7_end_66 : decode cX7_end 66 = .ok (.getfield 118, 3) := by decide +kernel
theorem dX7_end_69 : decode cX7_end 69 = .ok (.ireturn, 1) := by decide +kernel
theorem dX7_end_70 : decode cX7_end 70 = .ok (.aload_n 3, 1) := by decide +kernel
theorem dX7_end_71 : decode cX7_end 71 = .ok (.getfield 121, 3) := by decide +kernel
theorem dX7_end_74 : decode cX7_end 74 = .ok (.ireturn, 1) := by decide +kernel
theorem dX7_end_75 : decode cX7_end 75 = .ok (.aload_n 3, 1) := by decide +kernel
theorem dX7_end_76 : decode cX7_end 76 = .ok (.getfield 124, 3) := by decide +kernel
theorem dX7_end_79 : decode cX7_end 79 = .ok (.ireturn, 1) := by decide +kernel
theorem dX7_end_80 : decode cX7_end 80 = .ok (.aload_n 3, 1) := by decide +kernel
theorem dX7_end_81 : decode cX7_end 81 = .ok (.getfield 127, 3) := by decide +kernel
theorem dX7_end_84 : decode cX7_end 84 = .ok (.ireturn, 1) := by decide +kernel
theorem dX7_end_85 : decode cX7_end 85 = .ok (.aload_n 3, 1) := by decide +kernel
theorem dX7_end_86 : decode cX7_end 86 = .ok (.aload_n 0, 1) := by decide +kernel
theorem dX7_end_87 : decode cX7_end 87 = .ok (.getfield 26, 3) := by decide +kernel
theorem dX7_end_90 : decode cX7_end 90 = .ok (.getfield 96, 3) := by decide +kernel
theorem dX7_end_93 : decode cX7_end 93 = .ok (.invokevirtual 130, 3) := by decide +kernel
theorem dX7_end_96 : decode cX7_end 96 = .ok (.ifCond .eq 7, 3) := by decide +kernel
theorem dX7_end_99 : decode cX7_end 99 = .ok (.iconst 1, 1) := by decide +kernel
theorem dX7_end_100 : decode cX7_end 100 = .ok (.goto 4, 3) := by decide +kernel
theorem dX7_end_103 : decode cX7_end 103 = .ok (.iconst 0, 1) := by decide +kernel
theorem dX7_end_104 : decode cX7_end 104 = .ok (.ireturn, 1) := by decide +kernel
theorem dX7_end_105 : decode cX7_end 105 = .ok (.aload_n 0, 1) := by decide +kernel
theorem dX7_end_106 : decode cX7_end 106 = .ok (.iload_n 1, 1) := by decide +kernel
theorem dX7_end_107 : decode cX7_end 107 = .ok (.invokevirtual 133, 3) := by decide +kernel
theorem dX7_end_110 : decode cX7_end 110 = .ok (.ireturn, 1) := by decide +kernel
theorem dX7_end_111 : decode cX7_end 111 = .ok (.bipush (-2), 2) := by decide +kernel
theorem dX7_end_113 : decode cX7_end 113 = .ok (.ireturn, 1) := by decide +kernel
theorem dX7_held_0 : decode cX7_held 0 = .ok (.iload_n 1, 1) := by decide +kernel
theorem dX7_held_1 : decode cX7_held 1 = .ok (.invokestatic 106, 3) := by decide +kernel
theorem dX7_held_4 : decode cX7_held 4 = .ok (.ifCond .eq 18, 3) := by decide +kernel
theorem dX7_held_7 : decode cX7_held 7 = .ok (.aload_n 0, 1) := by decide +kernel
theorem dX7_held_8 : decode cX7_held 8 = .ok (.getfield 26, 3) := by decide +kernel
theorem dX7_held_11 : decode cX7_held 11 = .ok (.iload_n 1, 1) := by decide +kernel
theorem dX7_held_12 : decode cX7_held 12 = .ok (.invokevirtual 109, 3) := by decide +kernel
theorem dX7_held_15 : decode cX7_held 15 = .ok (.iload_n 2, 1) := by decide +kernel
theorem dX7_held_16 : decode cX7_held 16 = .ok (.invokevirtual 136, 3) := by decide +kernel
theorem dX7_held_19 : decode cX7_held 19 = .ok (.goto 4, 3) := by decide +kernel
theorem dX7_held_22 : decode cX7_held 22 = .ok (.iconst (-1), 1) := by decide +kernel
theorem dX7_held_23 : decode cX7_held 23 = .ok (.ireturn, 1) := by decide +kernel
theorem dX7_come_0 : decode cX7_come 0 = .ok (.iload_n 1, 1) := by decide +kernel
theorem dX7_come_1 : decode cX7_come 1 = .ok (.invokestatic 106, 3) := by decide +kernel
theorem dX7_come_4 : decode cX7_come 4 = .ok (.ifCond .ne 5, 3) := by decide +kernel
theorem dX7_come_7 : decode cX7_come 7 = .ok (.iconst (-1), 1) := by decide +kernel
theorem dX7_come_8 : decode cX7_come 8 = .ok (.ireturn, 1) := by decide +kernel
theorem dX7_come_9 : decode cX7_come 9 = .ok (.aload_n 0, 1) := by decide +kernel
theorem dX7_come_10 : decode cX7_come 10 = .ok (.getfield 26, 3) := by decide +kernel
theorem dX7_come_13 : decode cX7_come 13 = .ok (.iload_n 1, 1) := by decide +kernel
theorem dX7_come_14 : decode cX7_come 14 = .ok (.invokevirtual 109, 3) := by decide +kernel
theorem dX7_come_17 : decode cX7_come 17 = .ok (.astore_n 2, 1) := by decide +kernel
theorem dX7_come_18 : decode cX7_come 18 = .ok (.aload_n 2, 1) := by decide +kernel
theorem dX7_come_19 : decode cX7_come 19 = .ok (.invokevirtual 139, 3) := by decide +kernel
theorem dX7_come_22 : decode cX7_come 22 = .ok (.ifCond .eq 6, 3) := by decide +kernel
theorem dX7_come_25 : decode cX7_come 25 = .ok (.bipush (-4), 2) := by decide +kernel
theorem dX7_come_27 : decode cX7_come 27 = .ok (.ireturn, 1) := by decide +kernel
theorem dX7_come_28 : decode cX7_come 28 = .ok (.aload_n 0, 1) := by decide +kernel
theorem dX7_come_29 : decode cX7_come 29 = .ok (.getfield 36, 3) := by decide +kernel
theorem dX7_come_32 : decode cX7_come 32 = .ok (.aload_n 0, 1) := by decide +kernel
theorem dX7_come_33 : decode cX7_come 33 = .ok (.getfield 26, 3) := by decide +kernel
theorem dX7_come_36 : decode cX7_come 36 = .ok (.invokevirtual 143, 3) := by decide +kernel
theorem dX7_come_39 : decode cX7_come 39 = .ok (.aload_n 0, 1) := by decide +kernel
theorem dX7_come_40 : decode cX7_come 40 = .ok (.getfield 26, 3) := by decide +kernel
theorem dX7_come_43 : decode cX7_come 43 = .ok (.iload_n 1, 1) := by decide +kernel
theorem dX7_come_44 : decode cX7_come 44 = .ok (.iconst 0, 1) := by decide +kernel
theorem dX7_come_45 : decode cX7_come 45 = .ok (.invokevirtual 146, 3) := by decide +kernel
theorem dX7_come_48 : decode cX7_come 48 = .ok (.pop, 1) := by decide +kernel
theorem dX7_come_49 : decode cX7_come 49 = .ok (.aload_n 2, 1) := by decide +kernel
theorem dX7_come_50 : decode cX7_come 50 = .ok (.getfield 127, 3) := by decide +kernel
theorem dX7_come_53 : decode cX7_come 53 = .ok (.ireturn, 1) := by decide +kernel
theorem dX7_pass_0 : decode cX7_pass 0 = .ok (.iload_n 1, 1) := by decide +kernel
theorem dX7_pass_1 : decode cX7_pass 1 = .ok (.iconst 1, 1) := by decide +kernel
theorem dX7_pass_2 : decode cX7_pass 2 = .ok (.bipush 20, 2) := by decide +kernel
theorem dX7_pass_4 : decode cX7_pass 4 = .ok (.invokestatic 61, 3) := by decide +kernel
theorem dX7_pass_7 : decode cX7_pass 7 = .ok (.ifCond .ne 6, 3) := by decide +kernel
theorem dX7_pass_10 : decode cX7_pass 10 = .ok (.bipush (-2), 2) := by decide +kernel
theorem dX7_pass_12 : decode cX7_pass 12 = .ok (.ireturn, 1) := by decide +kernel
theorem dX7_pass_13 : decode cX7_pass 13 = .ok (.aload_n 0, 1) := by decide +kernel
theorem dX7_pass_14 : decode cX7_pass 14 = .ok (.getfield 36, 3) := by decide +kernel
theorem dX7_pass_17 : decode cX7_pass 17 = .ok (.aload_n 0, 1) := by decide +kernel
theorem dX7_pass_18 : decode cX7_pass 18 = .ok (.getfield 26, 3) := by decide +kernel
theorem dX7_pass_21 : decode cX7_pass 21 = .ok (.invokevirtual 143, 3) := by decide +kernel
theorem dX7_pass_24 : decode cX7_pass 24 = .ok (.aload_n 0, 1) := by decide +kernel
theorem dX7_pass_25 : decode cX7_pass 25 = .ok (.getfield 26, 3) := by decide +kernel
theorem dX7_pass_28 : decode cX7_pass 28 = .ok (.iload_n 1, 1) := by decide +kernel
theorem dX7_pass_29 : decode cX7_pass 29 = .ok (.invokevirtual 150, 3) := by decide +kernel
theorem dX7_pass_32 : decode cX7_pass 32 = .ok (.aload_n 0, 1) := by decide +kernel
theorem dX7_pass_33 : decode cX7_pass 33 = .ok (.getfield 26, 3) := by decide +kernel
theorem dX7_pass_36 : decode cX7_pass 36 = .ok (.getfield 96, 3) := by decide +kernel
theorem dX7_pass_39 : decode cX7_pass 39 = .ok (.ireturn, 1) := by decide +kernel
theorem dX7_tell_0 : decode cX7_tell 0 = .ok (.iload_n 1, 1) := by decide +kernel
theorem dX7_tell_1 : decode cX7_tell 1 = .ok (.invokestatic 106, 3) := by decide +kernel
theorem dX7_tell_4 : decode cX7_tell 4 = .ok (.ifCond .ne 5, 3) := by decide +kernel
theorem dX7_tell_7 : decode cX7_tell 7 = .ok (.iconst (-1), 1) := by decide +kernel
theorem dX7_tell_8 : decode cX7_tell 8 = .ok (.ireturn, 1) := by decide +kernel
theorem dX7_tell_9 : decode cX7_tell 9 = .ok (.iload_n 2, 1) := by decide +kernel
theorem dX7_tell_10 : decode cX7_tell 10 = .ok (.iconst 0, 1) := by decide +kernel
theorem dX7_tell_11 : decode cX7_tell 11 = .ok (.iconst 2, 1) := by decide +kernel
theorem dX7_tell_12 : decode cX7_tell 12 = .ok (.invokestatic 61, 3) := by decide +kernel
theorem dX7_tell_15 : decode cX7_tell 15 = .ok (.ifCond .eq 10, 3) := by decide +kernel
theorem dX7_tell_18 : decode cX7_tell 18 = .ok (.iload_n 3, 1) := by decide +kernel
theorem dX7_tell_19 : decode cX7_tell 19 = .ok (.invokestatic 154, 3) := by decide +kernel
theorem dX7_tell_22 : decode cX7_tell 22 = .ok (.ifCond .ne 6, 3) := by decide +kernel
theorem dX7_tell_25 : decode cX7_tell 25 = .ok (.bipush (-2), 2) := by decide +kernel
theorem dX7_tell_27 : decode cX7_tell 27 = .ok (.ireturn, 1) := by decide +kernel
theorem dX7_tell_28 : decode cX7_tell 28 = .ok (.iload_n 2, 1) := by decide +kernel
theorem dX7_tell_29 : decode cX7_tell 29 = .ok (.ifCond .ne 20, 3) := by decide +kernel
theorem dX7_tell_32 : decode cX7_tell 32 = .ok (.aload_n 0, 1) := by decide +kernel
theorem dX7_tell_33 : decode cX7_tell 33 = .ok (.getfield 26, 3) := by decide +kernel
theorem dX7_tell_36 : decode cX7_tell 36 = .ok (.iload_n 1, 1) := by decide +kernel
theorem dX7_tell_37 : decode cX7_tell 37 = .ok (.invokevirtual 109, 3) := by decide +kernel
theorem dX7_tell_40 : decode cX7_tell 40 = .ok (.invokevirtual 139, 3) := by decide +kernel
theorem dX7_tell_43 : decode cX7_tell 43 = .ok (.ifCond .eq 6, 3) := by decide +kernel
theorem dX7_tell_46 : decode cX7_tell 46 = .ok (.bipush (-4), 2) := by decide +kernel
theorem dX7_tell_48 : decode cX7_tell 48 = .ok (.ireturn, 1) := by decide +kernel
theorem dX7_tell_49 : decode cX7_tell 49 = .ok (.aload_n 0, 1) := by decide +kernel
theorem dX7_tell_50 : decode cX7_tell 50 = .ok (.getfield 36, 3) := by decide +kernel
theorem dX7_tell_53 : decode cX7_tell 53 = .ok (.aload_n 0, 1) := by decide +kernel
theorem dX7_tell_54 : decode cX7_tell 54 = .ok (.getfield 26, 3) := by decide +kernel
theorem dX7_tell_57 : decode cX7_tell 57 = .ok (.invokevirtual 143, 3) := by decide +kernel
theorem dX7_tell_60 : decode cX7_tell 60 = .ok (.aload_n 0, 1) := by decide +kernel
theorem dX7_tell_61 : decode cX7_tell 61 = .ok (.getfield 26, 3) := by decide +kernel
theorem dX7_tell_64 : decode cX7_tell 64 = .ok (.iload_n 1, 1) := by decide +kernel
theorem dX7_tell_65 : decode cX7_tell 65 = .ok (.iload_n 2, 1) := by decide +kernel
theorem dX7_tell_66 : decode cX7_tell 66 = .ok (.iload_n 3, 1) := by decide +kernel
theorem dX7_tell_67 : decode cX7_tell 67 = .ok (.invokevirtual 157, 3) := by decide +kernel
theorem dX7_tell_70 : decode cX7_tell 70 = .ok (.ireturn, 1) := by decide +kernel
theorem dX7_undo_0 : decode cX7_undo 0 = .ok (.aload_n 0, 1) := by decide +kernel
theorem dX7_undo_1 : decode cX7_undo 1 = .ok (.getfield 36, 3) := by decide +kernel
theorem dX7_undo_4 : decode cX7_undo 4 = .ok (.aload_n 0, 1) := by decide +kernel
theorem dX7_undo_5 : decode cX7_undo 5 = .ok (.getfield 26, 3) := by decide +kernel
theorem dX7_undo_8 : decode cX7_undo 8 = .ok (.invokevirtual 161, 3) := by decide +kernel
theorem dX7_undo_11 : decode cX7_undo 11 = .ok (.ifCond .eq 13, 3) := by decide +kernel
theorem dX7_undo_14 : decode cX7_undo 14 = .ok (.aload_n 0, 1) := by decide +kernel
theorem dX7_undo_15 : decode cX7_undo 15 = .ok (.getfield 36, 3) := by decide +kernel
theorem dX7_undo_18 : decode cX7_undo 18 = .ok (.getfield 91, 3) := by decide +kernel
theorem dX7_undo_21 : decode cX7_undo 21 = .ok (.goto 5, 3) := by decide +kernel
theorem dX7_undo_24 : decode cX7_undo 24 = .ok (.bipush (-3), 2) := by decide +kernel
theorem dX7_undo_26 : decode cX7_undo 26 = .ok (.ireturn, 1) := by decide +kernel
theorem dX7_ahead_0 : decode cX7_ahead 0 = .ok (.iload_n 1, 1) := by decide +kernel
theorem dX7_ahead_1 : decode cX7_ahead 1 = .ok (.iconst 0, 1) := by decide +kernel
theorem dX7_ahead_2 : decode cX7_ahead 2 = .ok (.bipush 99, 2) := by decide +kernel
theorem dX7_ahead_4 : decode cX7_ahead 4 = .ok (.invokestatic 61, 3) := by decide +kernel
theorem dX7_ahead_7 : decode cX7_ahead 7 = .ok (.ifCond .eq 13, 3) := by decide +kernel
theorem dX7_ahead_10 : decode cX7_ahead 10 = .ok (.iload_n 2, 1) := by decide +kernel
theorem dX7_ahead_11 : decode cX7_ahead 11 = .ok (.iconst 0, 1) := by decide +kernel
theorem dX7_ahead_12 : decode cX7_ahead 12 = .ok (.bipush 9, 2) := by decide +kernel
theorem dX7_ahead_14 : decode cX7_ahead 14 = .ok (.invokestatic 61, 3) := by decide +kernel
theorem dX7_ahead_17 : decode cX7_ahead 17 = .ok (.ifCond .ne 6, 3) := by decide +kernel
theorem dX7_ahead_20 : decode cX7_ahead 20 = .ok (.bipush (-2), 2) := by decide +kernel
theorem dX7_ahead_22 : decode cX7_ahead 22 = .ok (.ireturn, 1) := by decide +kernel
theorem dX7_ahead_23 : decode cX7_ahead 23 = .ok (.aload_n 0, 1) := by decide +kernel
theorem dX7_ahead_24 : decode cX7_ahead 24 = .ok (.getfield 30, 3) := by decide +kernel
theorem dX7_ahead_27 : decode cX7_ahead 27 = .ok (.aload_n 0, 1) := by decide +kernel
theorem dX7_ahead_28 : decode cX7_ahead 28 = .ok (.getfield 26, 3) := by decide +kernel
theorem dX7_ahead_31 : decode cX7_ahead 31 = .ok (.invokevirtual 84, 3) := by decide +kernel
theorem dX7_ahead_34 : decode cX7_ahead 34 = .ok (.aload_n 0, 1) := by decide +kernel
theorem dX7_ahead_35 : decode cX7_ahead 35 = .ok (.getfield 30, 3) := by decide +kernel
theorem dX7_ahead_38 : decode cX7_ahead 38 = .ok (.iload_n 1, 1) := by decide +kernel
theorem dX7_ahead_39 : decode cX7_ahead 39 = .ok (.invokevirtual 150, 3) := by decide +kernel
theorem dX7_ahead_42 : decode cX7_ahead 42 = .ok (.aload_n 0, 1) := by decide +kernel
theorem dX7_ahead_43 : decode cX7_ahead 43 = .ok (.getfield 30, 3) := by decide +kernel
theorem dX7_ahead_46 : decode cX7_ahead 46 = .ok (.iload_n 2, 1) := by decide +kernel
theorem dX7_ahead_47 : decode cX7_ahead 47 = .ok (.invokevirtual 102, 3) := by decide +kernel
theorem dX7_ahead_50 : decode cX7_ahead 50 = .ok (.ireturn, 1) := by decide +kernel
theorem dX7_play_0 : decode cX7_play 0 = .ok (.iload_n 1, 1) := by decide +kernel
theorem dX7_play_1 : decode cX7_play 1 = .ok (.iconst 0, 1) := by decide +kernel
theorem dX7_play_2 : decode cX7_play 2 = .ok (.iconst 5, 1) := by decide +kernel
theorem dX7_play_3 : decode cX7_play 3 = .ok (.invokestatic 61, 3) := by decide +kernel
theorem dX7_play_6 : decode cX7_play 6 = .ok (.ifCond .ne 6, 3) := by decide +kernel
theorem dX7_play_9 : decode cX7_play 9 = .ok (.bipush (-2), 2) := by decide +kernel
theorem dX7_play_11 : decode cX7_play 11 = .ok (.ireturn, 1) := by decide +kernel
theorem dX7_play_12 : decode cX7_play 12 = .ok (.iload_n 1, 1) := by decide +kernel
theorem dX7_play_13 : decode cX7_play 13 = .ok (.iconst 5, 1) := by decide +kernel
theorem dX7_play_14 : decode cX7_play 14 = .ok (.if_icmp .ne 11, 3) := by decide +kernel
theorem dX7_play_17 : decode cX7_play 17 = .ok (.aload_n 0, 1) := by decide +kernel
theorem dX7_play_18 : decode cX7_play 18 = .ok (.getfield 19, 3) := by decide +kernel
theorem dX7_play_21 : decode cX7_play 21 = .ok (.invokevirtual 165, 3) := by decide +kernel
theorem dX7_play_24 : decode cX7_play 24 = .ok (.ireturn, 1) := by decide +kernel
theorem dX7_play_25 : decode cX7_play 25 = .ok (.aload_n 0, 1) := by decide +kernel
theorem dX7_play_26 : decode cX7_play 26 = .ok (.getfield 30, 3) := by decide +kernel
theorem dX7_play_29 : decode cX7_play 29 = .ok (.aload_n 0, 1) := by decide +kernel
theorem dX7_play_30 : decode cX7_play 30 = .ok (.getfield 19, 3) := by decide +kernel
theorem dX7_play_33 : decode cX7_play 33 = .ok (.getfield 81, 3) := by decide +kernel
theorem dX7_play_36 : decode cX7_play 36 = .ok (.invokevirtual 84, 3) := by decide +kernel
theorem dX7_play_39 : decode cX7_play 39 = .ok (.aload_n 0, 1) := by decide +kernel
theorem dX7_play_40 : decode cX7_play 40 = .ok (.getfield 19, 3) := by decide +kernel
theorem dX7_play_43 : decode cX7_play 43 = .ok (.aload_n 0, 1) := by decide +kernel
theorem dX7_play_44 : decode cX7_play 44 = .ok (.getfield 30, 3) := by decide +kernel
theorem dX7_play_47 : decode cX7_play 47 = .ok (.iconst 0, 1) := by decide +kernel
theorem dX7_play_48 : decode cX7_play 48 = .ok (.invokevirtual 87, 3) := by decide +kernel
theorem dX7_play_51 : decode cX7_play 51 = .ok (.aload_n 0, 1) := by decide +kernel
theorem dX7_play_52 : decode cX7_play 52 = .ok (.getfield 30, 3) := by decide +kernel
theorem dX7_play_55 : decode cX7_play 55 = .ok (.invokevirtual 168, 3) := by decide +kernel
theorem dX7_play_58 : decode cX7_play 58 = .ok (.iload_n 1, 1) := by decide +kernel
theorem dX7_play_59 : decode cX7_play 59 = .ok (.tableswitch 61 0 3 #[29, 37, 45, 53], 29) := by decide +kernel
theorem dX7_play_88 : decode cX7_play 88 = .ok (.aload_n 0, 1) := by decide +kernel
theorem dX7_play_89 : decode cX7_play 89 = .ok (.getfield 30, 3) := by decide +kernel
theorem dX7_play_92 : decode cX7_play 92 = .ok (.invokevirtual 171, 3) := by decide +kernel
theorem dX7_play_95 : decode cX7_play 95 = .ok (.ireturn, 1) := by decide +kernel
theorem dX7_play_96 : decode cX7_play 96 = .ok (.aload_n 0, 1) := by decide +kernel
theorem dX7_play_97 : decode cX7_play 97 = .ok (.getfield 30, 3) := by decide +kernel
theorem dX7_play_100 : decode cX7_play 100 = .ok (.getfield 174, 3) := by decide +kernel
theorem dX7_play_103 : decode cX7_play 103 = .ok (.ireturn, 1) := by decide +kernel
theorem dX7_play_104 : decode cX7_play 104 = .ok (.aload_n 0, 1) := by decide +kernel
theorem dX7_play_105 : decode cX7_play 105 = .ok (.getfield 30, 3) := by decide +kernel
theorem dX7_play_108 : decode cX7_play 108 = .ok (.getfield 177, 3) := by decide +kernel
theorem dX7_play_111 : decode cX7_play 111 = .ok (.ireturn, 1) := by decide +kernel
theorem dX7_play_112 : decode cX7_play 112 = .ok (.aload_n 0, 1) := by decide +kernel
theorem dX7_play_113 : decode cX7_play 113 = .ok (.getfield 30, 3) := by decide +kernel
theorem dX7_play_116 : decode cX7_play 116 = .ok (.getfield 180, 3) := by decide +kernel
theorem dX7_play_119 : decode cX7_play 119 = .ok (.ireturn, 1) := by decide +kernel
theorem dX7_play_120 : decode cX7_play 120 = .ok (.aload_n 0, 1) := by decide +kernel
theorem dX7_play_121 : decode cX7_play 121 = .ok (.getfield 30, 3) := by decide +kernel
theorem dX7_play_124 : decode cX7_play 124 = .ok (.getfield 96, 3) := by decide +kernel
theorem dX7_play_127 : decode cX7_play 127 = .ok (.ireturn, 1) := by decide +kernel
theorem dX7_judge_0 : decode cX7_judge 0 = .ok (.iload_n 1, 1) := by decide +kernel
theorem dX7_judge_1 : decode cX7_judge 1 = .ok (.iconst 1, 1) := by decide +kernel
theorem dX7_judge_2 : decode cX7_judge 2 = .ok (.iconst 4, 1) := by decide +kernel
theorem dX7_judge_3 : decode cX7_judge 3 = .ok (.invokestatic 61, 3) := by decide +kernel
theorem dX7_judge_6 : decode cX7_judge 6 = .ok (.ifCond .ne 6, 3) := by decide +kernel
theorem dX7_judge_9 : decode cX7_judge 9 = .ok (.bipush (-2), 2) := by decide +kernel
theorem dX7_judge_11 : decode cX7_judge 11 = .ok (.ireturn, 1) := by decide +kernel
theorem dX7_judge_12 : decode cX7_judge 12 = .ok (.lconst 1, 1) := by decide +kernel
theorem dX7_judge_13 : decode cX7_judge 13 = .ok (.lstore 4, 2) := by decide +kernel
theorem dX7_judge_15 : decode cX7_judge 15 = .ok (.iconst 0, 1) := by decide +kernel
theorem dX7_judge_16 : decode cX7_judge 16 = .ok (.istore 6, 2) := by decide +kernel
theorem dX7_judge_18 : decode cX7_judge 18 = .ok (.iload 6, 2) := by decide +kernel
theorem dX7_judge_20 : decode cX7_judge 20 = .ok (.iload_n 1, 1) := by decide +kernel
theorem dX7_judge_21 : decode cX7_judge 21 = .ok (.if_icmp .ge 17, 3) := by decide +kernel
theorem dX7_judge_24 : decode cX7_judge 24 = .ok (.lload 4, 2) := by decide +kernel
theorem dX7_judge_26 : decode cX7_judge 26 = .ok (.ldc2_w 183, 3) := by decide +kernel
theorem dX7_judge_29 : decode cX7_judge 29 = .ok (.lmul, 1) := by decide +kernel
theorem dX7_judge_30 : decode cX7_judge 30 = .ok (.lstore 4, 2) := by decide +kernel
theorem dX7_judge_32 : decode cX7_judge 32 = .ok (.iinc 6 1, 3) := by decide +kernel
theorem dX7_judge_35 : decode cX7_judge 35 = .ok (.goto (-17), 3) := by decide +kernel
theorem dX7_judge_38 : decode cX7_judge 38 = .ok (.lload_n 2, 1) := by decide +kernel
theorem dX7_judge_39 : decode cX7_judge 39 = .ok (.lconst 0, 1) := by decide +kernel
theorem dX7_judge_40 : decode cX7_judge 40 = .ok (.lcmp, 1) := by decide +kernel
theorem dX7_judge_41 : decode cX7_judge 41 = .ok (.ifCond .lt 10, 3) := by decide +kernel
theorem dX7_judge_44 : decode cX7_judge 44 = .ok (.lload_n 2, 1) := by decide +kernel
theorem dX7_judge_45 : decode cX7_judge 45 = .ok (.lload 4, 2) := by decide +kernel
theorem dX7_judge_47 : decode cX7_judge 47 = .ok (.lcmp, 1) := by decide +kernel
theorem dX7_judge_48 : decode cX7_judge 48 = .ok (.ifCond .lt 6, 3) := by decide +kernel
theorem dX7_judge_51 : decode cX7_judge 51 = .ok (.bipush (-2), 2) := by decide +kernel
theorem dX7_judge_53 : decode cX7_judge 53 = .ok (.ireturn, 1) := by decide +kernel
theorem dX7_judge_54 : decode cX7_judge 54 = .ok (.aload_n 0, 1) := by decide +kernel
theorem dX7_judge_55 : decode cX7_judge 55 = .ok (.getfield 30, 3) := by decide +kernel
theorem dX7_judge_58 : decode cX7_judge 58 = .ok (.aload_n 0, 1) := by decide +kernel
theorem dX7_judge_59 : decode cX7_judge 59 = .ok (.getfield 26, 3) := by decide +kernel
theorem dX7_judge_62 : decode cX7_judge 62 = .ok (.invokevirtual 84, 3) := by decide +kernel
theorem dX7_judge_65 : decode cX7_judge 65 = .ok (.lload_n 2, 1) := by decide +kernel
theorem dX7_judge_66 : decode cX7_judge 66 = .ok (.lstore 6, 2) := by decide +kernel
theorem dX7_judge_68 : decode cX7_judge 68 = .ok (.iconst 0, 1) := by decide +kernel
theorem dX7_judge_69 : decode cX7_judge 69 = .ok (.istore 8, 2) := by decide +kernel
theorem dX7_judge_71 : decode cX7_judge 71 = .ok (.iload 8, 2) := by decide +kernel
theorem dX7_judge_73 : decode cX7_judge 73 = .ok (.iload_n 1, 1) := by decide +kernel
theorem dX7_judge_74 : decode cX7_judge 74 = .ok (.if_icmp .ge 52, 3) := by decide +kernel
theorem dX7_judge_77 : decode cX7_judge 77 = .ok (.lload 4, 2) := by decide +kernel
theorem dX7_judge_79 : decode cX7_judge 79 = .ok (.ldc2_w 183, 3) := by decide +kernel
theorem dX7_judge_82 : decode cX7_judge 82 = .ok (.lcmp, 1) := by decide +kernel
theorem dX7_judge_83 : decode cX7_judge 83 = .ok (.ifCond .lt 43, 3) := by decide +kernel
theorem dX7_judge_86 : decode cX7_judge 86 = .ok (.lload 4, 2) := by decide +kernel
theorem dX7_judge_88 : decode cX7_judge 88 = .ok (.ldc2_w 183, 3) := by decide +kernel
theorem dX7_judge_91 : decode cX7_judge 91 = .ok (.ldiv, 1) := by decide +kernel
theorem dX7_judge_92 : decode cX7_judge 92 = .ok (.lstore 4, 2) := by decide +kernel
theorem dX7_judge_94 : decode cX7_judge 94 = .ok (.aload_n 0, 1) := by decide +kernel
theorem dX7_judge_95 : decode cX7_judge 95 = .ok (.getfield 30, 3) := by decide +kernel
theorem dX7_judge_98 : decode cX7_judge 98 = .ok (.lload 6, 2) := by decide +kernel
theorem dX7_judge_100 : decode cX7_judge 100 = .ok (.lload 4, 2) := by decide +kernel
theorem dX7_judge_102 : decode cX7_judge 102 = .ok (.ldiv, 1) := by decide +kernel
theorem dX7_judge_103 : decode cX7_judge 103 = .ok (.l2i, 1) := by decide +kernel
theorem dX7_judge_104 : decode cX7_judge 104 = .ok (.invokevirtual 185, 3) := by decide +kernel
theorem dX7_judge_107 : decode cX7_judge 107 = .ok (.ifCond .ne 6, 3) := by decide +kernel
theorem dX7_judge_110 : decode cX7_judge 110 = .ok (.iload 8, 2) := by decide +kernel
theorem dX7_judge_112 : decode cX7_judge 112 = .ok (.ireturn, 1) := by decide +kernel
theorem dX7_judge_113 : decode cX7_judge 113 = .ok (.lload 6, 2) := by decide +kernel
theorem dX7_judge_115 : decode cX7_judge 115 = .ok (.lload 4, 2) := by decide +kernel
theorem dX7_judge_117 : decode cX7_judge 117 = .ok (.lrem, 1) := by decide +kernel
theorem dX7_judge_118 : decode cX7_judge 118 = .ok (.lstore 6, 2) := by decide +kernel
theorem dX7_judge_120 : decode cX7_judge 120 = .ok (.iinc 8 1, 3) := by decide +kernel
theorem dX7_judge_123 : decode cX7_judge 123 = .ok (.goto (-52), 3) := by decide +kernel
theorem dX7_judge_126 : decode cX7_judge 126 = .ok (.bipush (-9), 2) := by decide +kernel
theorem dX7_judge_128 : decode cX7_judge 128 = .ok (.ireturn, 1) := by decide +kernel
theorem dX7_see_0 : decode cX7_see 0 = .ok (.iload_n 1, 1) := by decide +kernel
theorem dX7_see_1 : decode cX7_see 1 = .ok (.iconst 0, 1) := by decide +kernel
theorem dX7_see_2 : decode cX7_see 2 = .ok (.bipush 99, 2) := by decide +kernel
theorem dX7_see_4 : decode cX7_see 4 = .ok (.invokestatic 61, 3) := by decide +kernel
theorem dX7_see_7 : decode cX7_see 7 = .ok (.ifCond .eq 12, 3) := by decide +kernel
theorem dX7_see_10 : decode cX7_see 10 = .ok (.iload_n 2, 1) := by decide +kernel
theorem dX7_see_11 : decode cX7_see 11 = .ok (.iconst 0, 1) := by decide +kernel
theorem dX7_see_12 : decode cX7_see 12 = .ok (.iconst 3, 1) := by decide +kernel
theorem dX7_see_13 : decode cX7_see 13 = .ok (.invokestatic 61, 3) := by decide +kernel
theorem dX7_see_16 : decode cX7_see 16 = .ok (.ifCond .ne 6, 3) := by decide +kernel
theorem dX7_see_19 : decode cX7_see 19 = .ok (.bipush (-2), 2) := by decide +kernel
theorem dX7_see_21 : decode cX7_see 21 = .ok (.ireturn, 1) := by decide +kernel
theorem dX7_see_22 : decode cX7_see 22 = .ok (.aload_n 0, 1) := by decide +kernel
theorem dX7_see_23 : decode cX7_see 23 = .ok (.getfield 43, 3) := by decide +kernel
theorem dX7_see_26 : decode cX7_see 26 = .ok (.iload_n 1, 1) := by decide +kernel
theorem dX7_see_27 : decode cX7_see 27 = .ok (.iload_n 2, 1) := by decide +kernel
theorem dX7_see_28 : decode cX7_see 28 = .ok (.invokevirtual 188, 3) := by decide +kernel
theorem dX7_see_31 : decode cX7_see 31 = .ok (.ifCond .eq 13, 3) := by decide +kernel
theorem dX7_see_34 : decode cX7_see 34 = .ok (.aload_n 0, 1) := by decide +kernel
theorem dX7_see_35 : decode cX7_see 35 = .ok (.getfield 43, 3) := by decide +kernel
theorem dX7_see_38 : decode cX7_see 38 = .ok (.getfield 190, 3) := by decide +kernel
theorem dX7_see_41 : decode cX7_see 41 = .ok (.goto 5, 3) := by decide +kernel
theorem dX7_see_44 : decode cX7_see 44 = .ok (.bipush (-4), 2) := by decide +kernel
theorem dX7_see_46 : decode cX7_see 46 = .ok (.ireturn, 1) := by decide +kernel
theorem dX7_unsee_0 : decode cX7_unsee 0 = .ok (.aload_n 0, 1) := by decide +kernel
theorem dX7_unsee_1 : decode cX7_unsee 1 = .ok (.getfield 43, 3) := by decide +kernel
theorem dX7_unsee_4 : decode cX7_unsee 4 = .ok (.getfield 190, 3) := by decide +kernel
theorem dX7_unsee_7 : decode cX7_unsee 7 = .ok (.istore_n 1, 1) := by decide +kernel
theorem dX7_unsee_8 : decode cX7_unsee 8 = .ok (.aload_n 0, 1) := by decide +kernel
theorem dX7_unsee_9 : decode cX7_unsee 9 = .ok (.getfield 43, 3) := by decide +kernel
theorem dX7_unsee_12 : decode cX7_unsee 12 = .ok (.iconst 0, 1) := by decide +kernel
theorem dX7_unsee_13 : decode cX7_unsee 13 = .ok (.putfield 190, 3) := by decide +kernel
theorem dX7_unsee_16 : decode cX7_unsee 16 = .ok (.iload_n 1, 1) := by decide +kernel
theorem dX7_unsee_17 : decode cX7_unsee 17 = .ok (.ireturn, 1) := by decide +kernel
theorem dX7_which_0 : decode cX7_which 0 = .ok (.iconst 0, 1) := by decide +kernel
theorem dX7_which_1 : decode cX7_which 1 = .ok (.istore_n 1, 1) := by decide +kernel
theorem dX7_which_2 : decode cX7_which 2 = .ok (.iconst 1, 1) := by decide +kernel
theorem dX7_which_3 : decode cX7_which 3 = .ok (.istore_n 2, 1) := by decide +kernel
theorem dX7_which_4 : decode cX7_which 4 = .ok (.iload_n 2, 1) := by decide +kernel
theorem dX7_which_5 : decode cX7_which 5 = .ok (.bipush 9, 2) := by decide +kernel
theorem dX7_which_7 : decode cX7_which 7 = .ok (.if_icmp .gt 23, 3) := by decide +kernel
theorem dX7_which_10 : decode cX7_which 10 = .ok (.aload_n 0, 1) := by decide +kernel
theorem dX7_which_11 : decode cX7_which 11 = .ok (.iload_n 2, 1) := by decide +kernel
theorem dX7_which_12 : decode cX7_which 12 = .ok (.invokevirtual 191, 3) := by decide +kernel
theorem dX7_which_15 : decode cX7_which 15 = .ok (.ifCond .eq 9, 3) := by decide +kernel
theorem dX7_which_18 : decode cX7_which 18 = .ok (.iload_n 1, 1) := by decide +kernel
theorem dX7_which_19 : decode cX7_which 19 = .ok (.iconst 1, 1) := by decide +kernel
theorem dX7_which_20 : decode cX7_which 20 = .ok (.iload_n 2, 1) := by decide +kernel
theorem dX7_which_21 : decode cX7_which 21 = .ok (.ishl, 1) := by decide +kernel
theorem dX7_which_22 : decode cX7_which 22 = .ok (.ior, 1) := by decide +kernel
theorem dX7_which_23 : decode cX7_which 23 = .ok (.istore_n 1, 1) := by decide +kernel
theorem dX7_which_24 : decode cX7_which 24 = .ok (.iinc 2 1, 3) := by decide +kernel
theorem dX7_which_27 : decode cX7_which 27 = .ok (.goto (-23), 3) := by decide +kernel
theorem dX7_which_30 : decode cX7_which 30 = .ok (.iload_n 1, 1) := by decide +kernel
theorem dX7_which_31 : decode cX7_which 31 = .ok (.ireturn, 1) := by decide +kernel
theorem dX7_share_0 : decode cX7_share 0 = .ok (.iload_n 1, 1) := by decide +kernel
theorem dX7_share_1 : decode cX7_share 1 = .ok (.iconst 0, 1) := by decide +kernel
theorem dX7_share_2 : decode cX7_share 2 = .ok (.iconst 2, 1) := by decide +kernel
theorem dX7_share_3 : decode cX7_share 3 = .ok (.invokestatic 61, 3) := by decide +kernel
theorem dX7_share_6 : decode cX7_share 6 = .ok (.ifCond .ne 5, 3) := by decide +kernel
theorem dX7_share_9 : decode cX7_share 9 = .ok (.iconst (-1), 1) := by decide +kernel
theorem dX7_share_10 : decode cX7_share 10 = .ok (.ireturn, 1) := by decide +kernel
theorem dX7_share_11 : decode cX7_share 11 = .ok (.iconst 1, 1) := by decide +kernel
theorem dX7_share_12 : decode cX7_share 12 = .ok (.iload_n 1, 1) := by decide +kernel
theorem dX7_share_13 : decode cX7_share 13 = .ok (.ishl, 1) := by decide +kernel
theorem dX7_share_14 : decode cX7_share 14 = .ok (.istore_n 3, 1) := by decide +kernel
theorem dX7_share_15 : decode cX7_share 15 = .ok (.iconst 0, 1) := by decide +kernel
theorem dX7_share_16 : decode cX7_share 16 = .ok (.istore 4, 2) := by decide +kernel
theorem dX7_share_18 : decode cX7_share 18 = .ok (.iconst 0, 1) := by decide +kernel
theorem dX7_share_19 : decode cX7_share 19 = .ok (.istore 5, 2) := by decide +kernel
theorem dX7_share_21 : decode cX7_share 21 = .ok (.iload 5, 2) := by decide +kernel
theorem dX7_share_23 : decode cX7_share 23 = .ok (.bipush 7, 2) := by decide +kernel
theorem dX7_share_25 : decode cX7_share 25 = .ok (.if_icmp .gt 48, 3) := by decide +kernel
theorem dX7_share_28 : decode cX7_share 28 = .ok (.iload 5, 2) := by decide +kernel
theorem dX7_share_30 : decode cX7_share 30 = .ok (.iload_n 3, 1) := by decide +kernel
theorem dX7_share_31 : decode cX7_share 31 = .ok (.iand, 1) := by decide +kernel
theorem dX7_share_32 : decode cX7_share 32 = .ok (.ifCond .ne 35, 3) := by decide +kernel
theorem dX7_share_35 : decode cX7_share 35 = .ok (.aload_n 0, 1) := by decide +kernel
theorem dX7_share_36 : decode cX7_share 36 = .ok (.iload 5, 2) := by decide +kernel
theorem dX7_share_38 : decode cX7_share 38 = .ok (.iconst 0, 1) := by decide +kernel
theorem dX7_share_39 : decode cX7_share 39 = .ok (.invokevirtual 194, 3) := by decide +kernel
theorem dX7_share_42 : decode cX7_share 42 = .ok (.aload_n 0, 1) := by decide +kernel
theorem dX7_share_43 : decode cX7_share 43 = .ok (.iload 5, 2) := by decide +kernel
theorem dX7_share_45 : decode cX7_share 45 = .ok (.iload_n 3, 1) := by decide +kernel
theorem dX7_share_46 : decode cX7_share 46 = .ok (.ior, 1) := by decide +kernel
theorem dX7_share_47 : decode cX7_share 47 = .ok (.iconst 0, 1) := by decide +kernel
theorem dX7_share_48 : decode cX7_share 48 = .ok (.invokevirtual 194, 3) := by decide +kernel
theorem dX7_share_51 : decode cX7_share 51 = .ok (.isub, 1) := by decide +kernel
theorem dX7_share_52 : decode cX7_share 52 = .ok (.istore 6, 2) := by decide +kernel
theorem dX7_share_54 : decode cX7_share 54 = .ok (.iload 4, 2) := by decide +kernel
theorem dX7_share_56 : decode cX7_share 56 = .ok (.iload 5, 2) := by decide +kernel
theorem dX7_share_58 : decode cX7_share 58 = .ok (.invokestatic 198, 3) := by decide +kernel
theorem dX7_share_61 : decode cX7_share 61 = .ok (.iload 6, 2) := by decide +kernel
theorem dX7_share_63 : decode cX7_share 63 = .ok (.imul, 1) := by decide +kernel
theorem dX7_share_64 : decode cX7_share 64 = .ok (.iadd, 1) := by decide +kernel
theorem dX7_share_65 : decode cX7_share 65 = .ok (.istore 4, 2) := by decide +kernel
theorem dX7_share_67 : decode cX7_share 67 = .ok (.iinc 5 1, 3) := by decide +kernel
theorem dX7_share_70 : decode cX7_share 70 = .ok (.goto (-49), 3) := by decide +kernel
theorem dX7_share_73 : decode cX7_share 73 = .ok (.iload 4, 2) := by decide +kernel
theorem dX7_share_75 : decode cX7_share 75 = .ok (.bipush 6, 2) := by decide +kernel
theorem dX7_share_77 : decode cX7_share 77 = .ok (.iload_n 2, 1) := by decide +kernel
theorem dX7_share_78 : decode cX7_share 78 = .ok (.invokestatic 201, 3) := by decide +kernel
theorem dX7_share_81 : decode cX7_share 81 = .ok (.ireturn, 1) := by decide +kernel
theorem dX7_luck_0 : decode cX7_luck 0 = .ok (.iload_n 1, 1) := by decide +kernel
theorem dX7_luck_1 : decode cX7_luck 1 = .ok (.iconst 0, 1) := by decide +kernel
theorem dX7_luck_2 : decode cX7_luck 2 = .ok (.bipush 6, 2) := by decide +kernel
theorem dX7_luck_4 : decode cX7_luck 4 = .ok (.invokestatic 61, 3) := by decide +kernel
theorem dX7_luck_7 : decode cX7_luck 7 = .ok (.ifCond .eq 24, 3) := by decide +kernel
theorem dX7_luck_10 : decode cX7_luck 10 = .ok (.iload_n 2, 1) := by decide +kernel
theorem dX7_luck_11 : decode cX7_luck 11 = .ok (.iconst 0, 1) := by decide +kernel
theorem dX7_luck_12 : decode cX7_luck 12 = .ok (.sipush 9999, 3) := by decide +kernel
theorem dX7_luck_15 : decode cX7_luck 15 = .ok (.invokestatic 61, 3) := by decide +kernel
theorem dX7_luck_18 : decode cX7_luck 18 = .ok (.ifCond .eq 13, 3) := by decide +kernel
theorem dX7_luck_21 : decode cX7_luck 21 = .ok (.iload_n 3, 1) := by decide +kernel
theorem dX7_luck_22 : decode cX7_luck 22 = .ok (.iconst 0, 1) := by decide +kernel
theorem dX7_luck_23 : decode cX7_luck 23 = .ok (.bipush 10, 2) := by decide +kernel
theorem dX7_luck_25 : decode cX7_luck 25 = .ok (.invokestatic 61, 3) := by decide +kernel
theorem dX7_luck_28 : decode cX7_luck 28 = .ok (.ifCond .ne 6, 3) := by decide +kernel
theorem dX7_luck_31 : decode cX7_luck 31 = .ok (.bipush (-2), 2) := by decide +kernel
theorem dX7_luck_33 : decode cX7_luck 33 = .ok (.ireturn, 1) := by decide +kernel
theorem dX7_luck_34 : decode cX7_luck 34 = .ok (.iload_n 1, 1) := by decide +kernel
theorem dX7_luck_35 : decode cX7_luck 35 = .ok (.aload_n 0, 1) := by decide +kernel
theorem dX7_luck_36 : decode cX7_luck 36 = .ok (.getfield 19, 3) := by decide +kernel
theorem dX7_luck_39 : decode cX7_luck 39 = .ok (.invokevirtual 165, 3) := by decide +kernel
theorem dX7_luck_42 : decode cX7_luck 42 = .ok (.invokestatic 205, 3) := by decide +kernel
theorem dX7_luck_45 : decode cX7_luck 45 = .ok (.istore 5, 2) := by decide +kernel
theorem dX7_luck_47 : decode cX7_luck 47 = .ok (.iconst 0, 1) := by decide +kernel
theorem dX7_luck_48 : decode cX7_luck 48 = .ok (.istore 6, 2) := by decide +kernel
theorem dX7_luck_50 : decode cX7_luck 50 = .ok (.iconst 0, 1) := by decide +kernel
theorem dX7_luck_51 : decode cX7_luck 51 = .ok (.istore 7, 2) := by decide +kernel
theorem dX7_luck_53 : decode cX7_luck 53 = .ok (.iconst 0, 1) := by decide +kernel
theorem dX7_luck_54 : decode cX7_luck 54 = .ok (.istore 8, 2) := by decide +kernel
theorem dX7_luck_56 : decode cX7_luck 56 = .ok (.iload 8, 2) := by decide +kernel
theorem dX7_luck_58 : decode cX7_luck 58 = .ok (.iconst 1, 1) := by decide +kernel
theorem dX7_luck_59 : decode cX7_luck 59 = .ok (.iload 5, 2) := by decide +kernel
theorem dX7_luck_61 : decode cX7_luck 61 = .ok (.ishl, 1) := by decide +kernel
theorem dX7_luck_62 : decode cX7_luck 62 = .ok (.if_icmp .ge 50, 3) := by decide +kernel
theorem dX7_luck_65 : decode cX7_luck 65 = .ok (.iload 8, 2) := by decide +kernel
theorem dX7_luck_67 : decode cX7_luck 67 = .ok (.iload 5, 2) := by decide +kernel
theorem dX7_luck_69 : decode cX7_luck 69 = .ok (.iload_n 3, 1) := by decide +kernel
theorem dX7_luck_70 : decode cX7_luck 70 = .ok (.invokestatic 210, 3) := by decide +kernel
theorem dX7_luck_73 : decode cX7_luck 73 = .ok (.istore 9, 2) := by decide +kernel
theorem dX7_luck_75 : decode cX7_luck 75 = .ok (.iload 7, 2) := by decide +kernel
theorem dX7_luck_77 : decode cX7_luck 77 = .ok (.iload 9, 2) := by decide +kernel
theorem dX7_luck_79 : decode cX7_luck 79 = .ok (.iadd, 1) := by decide +kernel
theorem dX7_luck_80 : decode cX7_luck 80 = .ok (.istore 7, 2) := by decide +kernel
theorem dX7_luck_82 : decode cX7_luck 82 = .ok (.iload 9, 2) := by decide +kernel
theorem dX7_luck_84 : decode cX7_luck 84 = .ok (.ifCond .le 22, 3) := by decide +kernel
theorem dX7_luck_87 : decode cX7_luck 87 = .ok (.aload_n 0, 1) := by decide +kernel
theorem dX7_luck_88 : decode cX7_luck 88 = .ok (.bipush 7, 2) := by decide +kernel
theorem dX7_luck_90 : decode cX7_luck 90 = .ok (.iload 8, 2) := by decide +kernel
theorem dX7_luck_92 : decode cX7_luck 92 = .ok (.invokevirtual 194, 3) := by decide +kernel
theorem dX7_luck_95 : decode cX7_luck 95 = .ok (.iload_n 2, 1) := by decide +kernel
theorem dX7_luck_96 : decode cX7_luck 96 = .ok (.if_icmp .gt 10, 3) := by decide +kernel
theorem dX7_luck_99 : decode cX7_luck 99 = .ok (.iload 6, 2) := by decide +kernel
theorem dX7_luck_101 : decode cX7_luck 101 = .ok (.iload 9, 2) := by decide +kernel
theorem dX7_luck_103 : decode cX7_luck 103 = .ok (.iadd, 1) := by decide +kernel
theorem dX7_luck_104 : decode cX7_luck 104 = .ok (.istore 6, 2) := by decide +kernel
theorem dX7_luck_106 : decode cX7_luck 106 = .ok (.iinc 8 1, 3) := by decide +kernel
theorem dX7_luck_109 : decode cX7_luck 109 = .ok (.goto (-53), 3) := by decide +kernel
theorem dX7_luck_112 : decode cX7_luck 112 = .ok (.iload 6, 2) := by decide +kernel
theorem dX7_luck_114 : decode cX7_luck 114 = .ok (.iload 7, 2) := by decide +kernel
theorem dX7_luck_116 : decode cX7_luck 116 = .ok (.iload 4, 2) := by decide +kernel
theorem dX7_luck_118 : decode cX7_luck 118 = .ok (.invokestatic 201, 3) := by decide +kernel
theorem dX7_luck_121 : decode cX7_luck 121 = .ok (.ireturn, 1) := by decide +kernel
theorem dX7_seed_0 : decode cX7_seed 0 = .ok (.aload_n 0, 1) := by decide +kernel
theorem dX7_seed_1 : decode cX7_seed 1 = .ok (.getfield 57, 3) := by decide +kernel
theorem dX7_seed_4 : decode cX7_seed 4 = .ok (.lstore_n 3, 1) := by decide +kernel
theorem dX7_seed_5 : decode cX7_seed 5 = .ok (.aload_n 0, 1) := by decide +kernel
theorem dX7_seed_6 : decode cX7_seed 6 = .ok (.lload_n 1, 1) := by decide +kernel
theorem dX7_seed_7 : decode cX7_seed 7 = .ok (.putfield 57, 3) := by decide +kernel
theorem dX7_seed_10 : decode cX7_seed 10 = .ok (.lload_n 3, 1) := by decide +kernel
theorem dX7_seed_11 : decode cX7_seed 11 = .ok (.lreturn, 1) := by decide +kernel
theorem dX7_drawn_0 : decode cX7_drawn 0 = .ok (.iload_n 1, 1) := by decide +kernel
theorem dX7_drawn_1 : decode cX7_drawn 1 = .ok (.iconst 1, 1) := by decide +kernel
theorem dX7_drawn_2 : decode cX7_drawn 2 = .ok (.bipush 60, 2) := by decide +kernel
theorem dX7_drawn_4 : decode cX7_drawn 4 = .ok (.invokestatic 61, 3) := by decide +kernel
theorem dX7_drawn_7 : decode cX7_drawn 7 = .ok (.ifCond .ne 6, 3) := by decide +kernel
theorem dX7_drawn_10 : decode cX7_drawn 10 = .ok (.bipush (-2), 2) := by decide +kernel
theorem dX7_drawn_12 : decode cX7_drawn 12 = .ok (.ireturn, 1) := by decide +kernel
theorem dX7_drawn_13 : decode cX7_drawn 13 = .ok (.aload_n 0, 1) := by decide +kernel
theorem dX7_drawn_14 : decode cX7_drawn 14 = .ok (.getfield 30, 3) := by decide +kernel
theorem dX7_drawn_17 : decode cX7_drawn 17 = .ok (.aload_n 0, 1) := by decide +kernel
theorem dX7_drawn_18 : decode cX7_drawn 18 = .ok (.getfield 26, 3) := by decide +kernel
theorem dX7_drawn_21 : decode cX7_drawn 21 = .ok (.invokevirtual 84, 3) := by decide +kernel
theorem dX7_drawn_24 : decode cX7_drawn 24 = .ok (.iconst 0, 1) := by decide +kernel
theorem dX7_drawn_25 : decode cX7_drawn 25 = .ok (.istore_n 2, 1) := by decide +kernel
theorem dX7_drawn_26 : decode cX7_drawn 26 = .ok (.iload_n 2, 1) := by decide +kernel
theorem dX7_drawn_27 : decode cX7_drawn 27 = .ok (.iload_n 1, 1) := by decide +kernel
theorem dX7_drawn_28 : decode cX7_drawn 28 = .ok (.if_icmp .ge 61, 3) := by decide +kernel
theorem dX7_drawn_31 : decode cX7_drawn 31 = .ok (.aload_n 0, 1) := by decide +kernel
theorem dX7_drawn_32 : decode cX7_drawn 32 = .ok (.aload_n 0, 1) := by decide +kernel
theorem dX7_drawn_33 : decode cX7_drawn 33 = .ok (.getfield 57, 3) := by decide +kernel
theorem dX7_drawn_36 : decode cX7_drawn 36 = .ok (.ldc2_w 213, 3) := by decide +kernel
theorem dX7_drawn_39 : decode cX7_drawn 39 = .ok (.lmul, 1) := by decide +kernel
theorem dX7_drawn_40 : decode cX7_drawn 40 = .ok (.ldc2_w 215, 3) := by decide +kernel
theorem dX7_drawn_43 : decode cX7_drawn 43 = .ok (.ladd, 1) := by decide +kernel
theorem dX7_drawn_44 : decode cX7_drawn 44 = .ok (.putfield 57, 3) := by decide +kernel
theorem dX7_drawn_47 : decode cX7_drawn 47 = .ok (.aload_n 0, 1) := by decide +kernel
theorem dX7_drawn_48 : decode cX7_drawn 48 = .ok (.getfield 57, 3) := by decide +kernel
theorem dX7_drawn_51 : decode cX7_drawn 51 = .ok (.bipush 33, 2) := by decide +kernel
theorem dX7_drawn_53 : decode cX7_drawn 53 = .ok (.lushr, 1) := by decide +kernel
theorem dX7_drawn_54 : decode cX7_drawn 54 = .ok (.l2i, 1) := by decide +kernel
theorem dX7_drawn_55 : decode cX7_drawn 55 = .ok (.istore_n 3, 1) := by decide +kernel
theorem dX7_drawn_56 : decode cX7_drawn 56 = .ok (.iload_n 3, 1) := by decide +kernel
theorem dX7_drawn_57 : decode cX7_drawn 57 = .ok (.iconst 2, 1) := by decide +kernel
theorem dX7_drawn_58 : decode cX7_drawn 58 = .ok (.idiv, 1) := by decide +kernel
theorem dX7_drawn_59 : decode cX7_drawn 59 = .ok (.iconst 4, 1) := by decide +kernel
theorem dX7_drawn_60 : decode cX7_drawn 60 = .ok (.irem, 1) := by decide +kernel
theorem dX7_drawn_61 : decode cX7_drawn 61 = .ok (.ifCond .ne 15, 3) := by decide +kernel
theorem dX7_drawn_64 : decode cX7_drawn 64 = .ok (.aload_n 0, 1) := by decide +kernel
theorem dX7_drawn_65 : decode cX7_drawn 65 = .ok (.getfield 30, 3) := by decide +kernel
theorem dX7_drawn_68 : decode cX7_drawn 68 = .ok (.iload_n 3, 1) := by decide +kernel
theorem dX7_drawn_69 : decode cX7_drawn 69 = .ok (.iconst 2, 1) := by decide +kernel
theorem dX7_drawn_70 : decode cX7_drawn 70 = .ok (.irem, 1) := by decide +kernel
theorem dX7_drawn_71 : decode cX7_drawn 71 = .ok (.iconst 0, 1) := by decide +kernel
theorem dX7_drawn_72 : decode cX7_drawn 72 = .ok (.invokevirtual 146, 3) := by decide +kernel
theorem dX7_drawn_75 : decode cX7_drawn 75 = .ok (.pop, 1) := by decide +kernel
theorem dX7_drawn_76 : decode cX7_drawn 76 = .ok (.aload_n 0, 1) := by decide +kernel
theorem dX7_drawn_77 : decode cX7_drawn 77 = .ok (.getfield 30, 3) := by decide +kernel
theorem dX7_drawn_80 : decode cX7_drawn 80 = .ok (.invokevirtual 217, 3) := by decide +kernel
theorem dX7_drawn_83 : decode cX7_drawn 83 = .ok (.iinc 2 1, 3) := by decide +kernel
theorem dX7_drawn_86 : decode cX7_drawn 86 = .ok (.goto (-60), 3) := by decide +kernel
theorem dX7_drawn_89 : decode cX7_drawn 89 = .ok (.aload_n 0, 1) := by decide +kernel
theorem dX7_drawn_90 : decode cX7_drawn 90 = .ok (.getfield 30, 3) := by decide +kernel
theorem dX7_drawn_93 : decode cX7_drawn 93 = .ok (.getfield 177, 3) := by decide +kernel
theorem dX7_drawn_96 : decode cX7_drawn 96 = .ok (.aload_n 0, 1) := by decide +kernel
theorem dX7_drawn_97 : decode cX7_drawn 97 = .ok (.getfield 26, 3) := by decide +kernel
theorem dX7_drawn_100 : decode cX7_drawn 100 = .ok (.getfield 177, 3) := by decide +kernel
theorem dX7_drawn_103 : decode cX7_drawn 103 = .ok (.isub, 1) := by decide +kernel
theorem dX7_drawn_104 : decode cX7_drawn 104 = .ok (.ireturn, 1) := by decide +kernel
theorem dX7_keep_0 : decode cX7_keep 0 = .ok (.iload_n 1, 1) := by decide +kernel
theorem dX7_keep_1 : decode cX7_keep 1 = .ok (.invokestatic 220, 3) := by decide +kernel
theorem dX7_keep_4 : decode cX7_keep 4 = .ok (.ifCond .ne 5, 3) := by decide +kernel
theorem dX7_keep_7 : decode cX7_keep 7 = .ok (.iconst (-1), 1) := by decide +kernel
theorem dX7_keep_8 : decode cX7_keep 8 = .ok (.ireturn, 1) := by decide +kernel
theorem dX7_keep_9 : decode cX7_keep 9 = .ok (.aload_n 0, 1) := by decide +kernel
theorem dX7_keep_10 : decode cX7_keep 10 = .ok (.iload_n 1, 1) := by decide +kernel
theorem dX7_keep_11 : decode cX7_keep 11 = .ok (.invokevirtual 223, 3) := by decide +kernel
theorem dX7_keep_14 : decode cX7_keep 14 = .ok (.astore_n 2, 1) := by decide +kernel
theorem dX7_keep_15 : decode cX7_keep 15 = .ok (.aload_n 2, 1) := by decide +kernel
theorem dX7_keep_16 : decode cX7_keep 16 = .ok (.getfield 227, 3) := by decide +kernel
theorem dX7_keep_19 : decode cX7_keep 19 = .ok (.aload_n 0, 1) := by decide +kernel
theorem dX7_keep_20 : decode cX7_keep 20 = .ok (.getfield 26, 3) := by decide +kernel
theorem dX7_keep_23 : decode cX7_keep 23 = .ok (.invokevirtual 84, 3) := by decide +kernel
theorem dX7_keep_26 : decode cX7_keep 26 = .ok (.aload_n 2, 1) := by decide +kernel
theorem dX7_keep_27 : decode cX7_keep 27 = .ok (.iconst 1, 1) := by decide +kernel
theorem dX7_keep_28 : decode cX7_keep 28 = .ok (.putfield 92, 3) := by decide +kernel
theorem dX7_keep_31 : decode cX7_keep 31 = .ok (.aload_n 0, 1) := by decide +kernel
theorem dX7_keep_32 : decode cX7_keep 32 = .ok (.getfield 26, 3) := by decide +kernel
theorem dX7_keep_35 : decode cX7_keep 35 = .ok (.getfield 96, 3) := by decide +kernel
theorem dX7_keep_38 : decode cX7_keep 38 = .ok (.ireturn, 1) := by decide +kernel
theorem dX7_again_0 : decode cX7_again 0 = .ok (.iload_n 1, 1) := by decide +kernel
theorem dX7_again_1 : decode cX7_again 1 = .ok (.invokestatic 220, 3) := by decide +kernel
theorem dX7_again_4 : decode cX7_again 4 = .ok (.ifCond .ne 5, 3) := by decide +kernel
theorem dX7_again_7 : decode cX7_again 7 = .ok (.iconst (-1), 1) := by decide +kernel
theorem dX7_again_8 : decode cX7_again 8 = .ok (.ireturn, 1) := by decide +kernel
theorem dX7_again_9 : decode cX7_again 9 = .ok (.aload_n 0, 1) := by decide +kernel
theorem dX7_again_10 : decode cX7_again 10 = .ok (.iload_n 1, 1) := by decide +kernel
theorem dX7_again_11 : decode cX7_again 11 = .ok (.invokevirtual 223, 3) := by decide +kernel
theorem dX7_again_14 : decode cX7_again 14 = .ok (.astore_n 2, 1) := by decide +kernel
theorem dX7_again_15 : decode cX7_again 15 = .ok (.aload_n 2, 1) := by decide +kernel
theorem dX7_again_16 : decode cX7_again 16 = .ok (.getfield 92, 3) := by decide +kernel
theorem dX7_again_19 : decode cX7_again 19 = .ok (.ifCond .ne 6, 3) := by decide +kernel
theorem dX7_again_22 : decode cX7_again 22 = .ok (.bipush (-3), 2) := by decide +kernel
theorem dX7_again_24 : decode cX7_again 24 = .ok (.ireturn, 1) := by decide +kernel
theorem dX7_again_25 : decode cX7_again 25 = .ok (.aload_n 0, 1) := by decide +kernel
theorem dX7_again_26 : decode cX7_again 26 = .ok (.getfield 26, 3) := by decide +kernel
theorem dX7_again_29 : decode cX7_again 29 = .ok (.aload_n 2, 1) := by decide +kernel
theorem dX7_again_30 : decode cX7_again 30 = .ok (.getfield 227, 3) := by decide +kernel
theorem dX7_again_33 : decode cX7_again 33 = .ok (.invokevirtual 84, 3) := by decide +kernel
theorem dX7_again_36 : decode cX7_again 36 = .ok (.aload_n 0, 1) := by decide +kernel
theorem dX7_again_37 : decode cX7_again 37 = .ok (.getfield 36, 3) := by decide +kernel
theorem dX7_again_40 : decode cX7_again 40 = .ok (.iconst 0, 1) := by decide +kernel
theorem dX7_again_41 : decode cX7_again 41 = .ok (.putfield 91, 3) := by decide +kernel
theorem dX7_again_44 : decode cX7_again 44 = .ok (.aload_n 0, 1) := by decide +kernel
theorem dX7_again_45 : decode cX7_again 45 = .ok (.getfield 26, 3) := by decide +kernel
theorem dX7_again_48 : decode cX7_again 48 = .ok (.getfield 96, 3) := by decide +kernel
theorem dX7_again_51 : decode cX7_again 51 = .ok (.ireturn, 1) := by decide +kernel
theorem dX7_count_0 : decode cX7_count 0 = .ok (.iload_n 1, 1) := by decide +kernel
theorem dX7_count_1 : decode cX7_count 1 = .ok (.tableswitch 87 0 5 #[39, 47, 55, 63, 71, 79], 39) := by decide +kernel
theorem dX7_count_40 : decode cX7_count 40 = .ok (.aload_n 0, 1) := by decide +kernel
theorem dX7_count_41 : decode cX7_count 41 = .ok (.getfield 10, 3) := by decide +kernel
theorem dX7_count_44 : decode cX7_count 44 = .ok (.getfield 69, 3) := by decide +kernel
theorem dX7_count_47 : decode cX7_count 47 = .ok (.ireturn, 1) := by decide +kernel
theorem dX7_count_48 : decode cX7_count 48 = .ok (.aload_n 0, 1) := by decide +kernel
theorem dX7_count_49 : decode cX7_count 49 = .ok (.getfield 26, 3) := by decide +kernel
theorem dX7_count_52 : decode cX7_count 52 = .ok (.getfield 230, 3) := by decide +kernel
theorem dX7_count_55 : decode cX7_count 55 = .ok (.ireturn, 1) := by decide +kernel
theorem dX7_count_56 : decode cX7_count 56 = .ok (.aload_n 0, 1) := by decide +kernel
theorem dX7_count_57 : decode cX7_count 57 = .ok (.getfield 26, 3) := by decide +kernel
theorem dX7_count_60 : decode cX7_count 60 = .ok (.getfield 233, 3) := by decide +kernel
theorem dX7_count_63 : decode cX7_count 63 = .ok (.ireturn, 1) := by decide +kernel
theorem dX7_count_64 : decode cX7_count 64 = .ok (.aload_n 0, 1) := by decide +kernel
theorem dX7_count_65 : decode cX7_count 65 = .ok (.getfield 19, 3) := by decide +kernel
theorem dX7_count_68 : decode cX7_count 68 = .ok (.getfield 236, 3) := by decide +kernel
theorem dX7_count_71 : decode cX7_count 71 = .ok (.ireturn, 1) := by decide +kernel
theorem dX7_count_72 : decode cX7_count 72 = .ok (.aload_n 0, 1) := by decide +kernel
theorem dX7_count_73 : decode cX7_count 73 = .ok (.getfield 36, 3) := by decide +kernel
theorem dX7_count_76 : decode cX7_count 76 = .ok (.getfield 91, 3) := by decide +kernel
theorem dX7_count_79 : decode cX7_count 79 = .ok (.ireturn, 1) := by decide +kernel
theorem dX7_count_80 : decode cX7_count 80 = .ok (.aload_n 0, 1) := by decide +kernel
theorem dX7_count_81 : decode cX7_count 81 = .ok (.getfield 43, 3) := by decide +kernel
theorem dX7_count_84 : decode cX7_count 84 = .ok (.getfield 190, 3) := by decide +kernel
theorem dX7_count_87 : decode cX7_count 87 = .ok (.ireturn, 1) := by decide +kernel
theorem dX7_count_88 : decode cX7_count 88 = .ok (.bipush (-2), 2) := by decide +kernel
theorem dX7_count_90 : decode cX7_count 90 = .ok (.ireturn, 1) := by decide +kernel
theorem dX7_isWithin_0 : decode cX7_isWithin 0 = .ok (.iload_n 0, 1) := by decide +kernel
theorem dX7_isWithin_1 : decode cX7_isWithin 1 = .ok (.iload_n 1, 1) := by decide +kernel
theorem dX7_isWithin_2 : decode cX7_isWithin 2 = .ok (.if_icmp .lt 12, 3) := by decide +kernel
theorem dX7_isWithin_5 : decode cX7_isWithin 5 = .ok (.iload_n 0, 1) := by decide +kernel
theorem dX7_isWithin_6 : decode cX7_isWithin 6 = .ok (.iload_n 2, 1) := by decide +kernel
theorem dX7_isWithin_7 : decode cX7_isWithin 7 = .ok (.if_icmp .gt 7, 3) := by decide +kernel
theorem dX7_isWithin_10 : decode cX7_isWithin 10 = .ok (.iconst 1, 1) := by decide +kernel
theorem dX7_isWithin_11 : decode cX7_isWithin 11 = .ok (.goto 4, 3) := by decide +kernel
theorem dX7_isWithin_14 : decode cX7_isWithin 14 = .ok (.iconst 0, 1) := by decide +kernel
theorem dX7_isWithin_15 : decode cX7_isWithin 15 = .ok (.ireturn, 1) := by decide +kernel
theorem dX7_isFigure_0 : decode cX7_isFigure 0 = .ok (.iload_n 0, 1) := by decide +kernel
theorem dX7_isFigure_1 : decode cX7_isFigure 1 = .ok (.iconst 1, 1) := by decide +kernel
theorem dX7_isFigure_2 : decode cX7_isFigure 2 = .ok (.if_icmp .lt 13, 3) := by decide +kernel
theorem dX7_isFigure_5 : decode cX7_isFigure 5 = .ok (.iload_n 0, 1) := by decide +kernel
theorem dX7_isFigure_6 : decode cX7_isFigure 6 = .ok (.bipush 9, 2) := by decide +kernel
theorem dX7_isFigure_8 : decode cX7_isFigure 8 = .ok (.if_icmp .gt 7, 3) := by decide +kernel
theorem dX7_isFigure_11 : decode cX7_isFigure 11 = .ok (.iconst 1, 1) := by decide +kernel
theorem dX7_isFigure_12 : decode cX7_isFigure 12 = .ok (.goto 4, 3) := by decide +kernel
theorem dX7_isFigure_15 : decode cX7_isFigure 15 = .ok (.iconst 0, 1) := by decide +kernel
theorem dX7_isFigure_16 : decode cX7_isFigure 16 = .ok (.ireturn, 1) := by decide +kernel
theorem dX7_isEnd_0 : decode cX7_isEnd 0 = .ok (.iload_n 0, 1) := by decide +kernel
theorem dX7_isEnd_1 : decode cX7_isEnd 1 = .ok (.ifCond .eq 8, 3) := by decide +kernel
theorem dX7_isEnd_4 : decode cX7_isEnd 4 = .ok (.iload_n 0, 1) := by decide +kernel
theorem dX7_isEnd_5 : decode cX7_isEnd 5 = .ok (.iconst 1, 1) := by decide +kernel
theorem dX7_isEnd_6 : decode cX7_isEnd 6 = .ok (.if_icmp .ne 7, 3) := by decide +kernel
theorem dX7_isEnd_9 : decode cX7_isEnd 9 = .ok (.iconst 1, 1) := by decide +kernel
theorem dX7_isEnd_10 : decode cX7_isEnd 10 = .ok (.goto 4, 3) := by decide +kernel
theorem dX7_isEnd_13 : decode cX7_isEnd 13 = .ok (.iconst 0, 1) := by decide +kernel
theorem dX7_isEnd_14 : decode cX7_isEnd 14 = .ok (.ireturn, 1) := by decide +kernel
theorem dX7_isSlot_0 : decode cX7_isSlot 0 = .ok (.iload_n 0, 1) := by decide +kernel
theorem dX7_isSlot_1 : decode cX7_isSlot 1 = .ok (.ifCond .eq 8, 3) := by decide +kernel
theorem dX7_isSlot_4 : decode cX7_isSlot 4 = .ok (.iload_n 0, 1) := by decide +kernel
theorem dX7_isSlot_5 : decode cX7_isSlot 5 = .ok (.iconst 1, 1) := by decide +kernel
theorem dX7_isSlot_6 : decode cX7_isSlot 6 = .ok (.if_icmp .ne 7, 3) := by decide +kernel
theorem dX7_isSlot_9 : decode cX7_isSlot 9 = .ok (.iconst 1, 1) := by decide +kernel
theorem dX7_isSlot_10 : decode cX7_isSlot 10 = .ok (.goto 4, 3) := by decide +kernel
theorem dX7_isSlot_13 : decode cX7_isSlot 13 = .ok (.iconst 0, 1) := by decide +kernel
theorem dX7_isSlot_14 : decode cX7_isSlot 14 = .ok (.ireturn, 1) := by decide +kernel
theorem dX7_slotOf_0 : decode cX7_slotOf 0 = .ok (.iload_n 1, 1) := by decide +kernel
theorem dX7_slotOf_1 : decode cX7_slotOf 1 = .ok (.ifCond .ne 10, 3) := by decide +kernel
theorem dX7_slotOf_4 : decode cX7_slotOf 4 = .ok (.aload_n 0, 1) := by decide +kernel
theorem dX7_slotOf_5 : decode cX7_slotOf 5 = .ok (.getfield 50, 3) := by decide +kernel
theorem dX7_slotOf_8 : decode cX7_slotOf 8 = .ok (.goto 7, 3) := by decide +kernel
theorem dX7_slotOf_11 : decode cX7_slotOf 11 = .ok (.aload_n 0, 1) := by decide +kernel
theorem dX7_slotOf_12 : decode cX7_slotOf 12 = .ok (.getfield 54, 3) := by decide +kernel
theorem dX7_slotOf_15 : decode cX7_slotOf 15 = .ok (.areturn, 1) := by decide +kernel
theorem dX7_ticksTillQuiet_0 : decode cX7_ticksTillQuiet 0 = .ok (.aload_n 0, 1) := by decide +kernel
theorem dX7_ticksTillQuiet_1 : decode cX7_ticksTillQuiet 1 = .ok (.getfield 30, 3) := by decide +kernel
theorem dX7_ticksTillQuiet_4 : decode cX7_ticksTillQuiet 4 = .ok (.aload_n 0, 1) := by decide +kernel
theorem dX7_ticksTillQuiet_5 : decode cX7_ticksTillQuiet 5 = .ok (.getfield 26, 3) := by decide +kernel
theorem dX7_ticksTillQuiet_8 : decode cX7_ticksTillQuiet 8 = .ok (.invokevirtual 84, 3) := by decide +kernel
theorem dX7_ticksTillQuiet_11 : decode cX7_ticksTillQuiet 11 = .ok (.iconst 0, 1) := by decide +kernel
theorem dX7_ticksTillQuiet_12 : decode cX7_ticksTillQuiet 12 = .ok (.istore_n 1, 1) := by decide +kernel
theorem dX7_ticksTillQuiet_13 : decode cX7_ticksTillQuiet 13 = .ok (.iload_n 1, 1) := by decide +kernel
theorem dX7_ticksTillQuiet_14 : decode cX7_ticksTillQuiet 14 = .ok (.bipush 99, 2) := by decide +kernel
theorem dX7_ticksTillQuiet_16 : decode cX7_ticksTillQuiet 16 = .ok (.if_icmp .gt 28, 3) := by decide +kernel
theorem dX7_ticksTillQuiet_19 : decode cX7_ticksTillQuiet 19 = .ok (.aload_n 0, 1) := by decide +kernel
theorem dX7_ticksTillQuiet_20 : decode cX7_ticksTillQuiet 20 = .ok (.getfield 30, 3) := by decide +kernel
theorem dX7_ticksTillQuiet_23 : decode cX7_ticksTillQuiet 23 = .ok (.invokevirtual 237, 3) := by decide +kernel
theorem dX7_ticksTillQuiet_26 : decode cX7_ticksTillQuiet 26 = .ok (.ifCond .eq 5, 3) := by decide +kernel
theorem dX7_ticksTillQuiet_29 : decode cX7_ticksTillQuiet 29 = .ok (.iload_n 1, 1) := by decide +kernel
theorem dX7_ticksTillQuiet_30 : decode cX7_ticksTillQuiet 30 = .ok (.ireturn, 1) := by decide +kernel
theorem dX7_ticksTillQuiet_31 : decode cX7_ticksTillQuiet 31 = .ok (.aload_n 0, 1) := by decide +kernel
theorem dX7_ticksTillQuiet_32 : decode cX7_ticksTillQuiet 32 = .ok (.getfield 30, 3) := by decide +kernel
theorem dX7_ticksTillQuiet_35 : decode cX7_ticksTillQuiet 35 = .ok (.invokevirtual 217, 3) := by decide +kernel
theorem dX7_ticksTillQuiet_38 : decode cX7_ticksTillQuiet 38 = .ok (.iinc 1 1, 3) := by decide +kernel
theorem dX7_ticksTillQuiet_41 : decode cX7_ticksTillQuiet 41 = .ok (.goto (-28), 3) := by decide +kernel
theorem dX7_ticksTillQuiet_44 : decode cX7_ticksTillQuiet 44 = .ok (.bipush (-9), 2) := by decide +kernel
theorem dX7_ticksTillQuiet_46 : decode cX7_ticksTillQuiet 46 = .ok (.ireturn, 1) := by decide +kernel
theorem dX7_bestCount_0 : decode cX7_bestCount 0 = .ok (.iconst 1, 1) := by decide +kernel
theorem dX7_bestCount_1 : decode cX7_bestCount 1 = .ok (.istore_n 2, 1) := by decide +kernel
theorem dX7_bestCount_2 : decode cX7_bestCount 2 = .ok (.iconst 0, 1) := by decide +kernel
theorem dX7_bestCount_3 : decode cX7_bestCount 3 = .ok (.istore_n 3, 1) := by decide +kernel
theorem dX7_bestCount_4 : decode cX7_bestCount 4 = .ok (.iconst 1, 1) := by decide +kernel
theorem dX7_bestCount_5 : decode cX7_bestCount 5 = .ok (.istore 4, 2) := by decide +kernel
theorem dX7_bestCount_7 : decode cX7_bestCount 7 = .ok (.iload 4, 2) := by decide +kernel
theorem dX7_bestCount_9 : decode cX7_bestCount 9 = .ok (.bipush 9, 2) := by decide +kernel
theorem dX7_bestCount_11 : decode cX7_bestCount 11 = .ok (.if_icmp .gt 82, 3) := by decide +kernel
theorem dX7_bestCount_14 : decode cX7_bestCount 14 = .ok (.aload_n 0, 1) := by decide +kernel
theorem dX7_bestCount_15 : decode cX7_bestCount 15 = .ok (.getfield 30, 3) := by decide +kernel
theorem dX7_bestCount_18 : decode cX7_bestCount 18 = .ok (.aload_n 0, 1) := by decide +kernel
theorem dX7_bestCount_19 : decode cX7_bestCount 19 = .ok (.getfield 19, 3) := by decide +kernel
theorem dX7_bestCount_22 : decode cX7_bestCount 22 = .ok (.getfield 81, 3) := by decide +kernel
theorem dX7_bestCount_25 : decode cX7_bestCount 25 = .ok (.invokevirtual 84, 3) := by decide +kernel
theorem dX7_bestCount_28 : decode cX7_bestCount 28 = .ok (.aload_n 0, 1) := by decide +kernel
theorem dX7_bestCount_29 : decode cX7_bestCount 29 = .ok (.getfield 30, 3) := by decide +kernel
theorem dX7_bestCount_32 : decode cX7_bestCount 32 = .ok (.iload_n 1, 1) := by decide +kernel
theorem dX7_bestCount_33 : decode cX7_bestCount 33 = .ok (.invokevirtual 109, 3) := by decide +kernel
theorem dX7_bestCount_36 : decode cX7_bestCount 36 = .ok (.iload 4, 2) := by decide +kernel
theorem dX7_bestCount_38 : decode cX7_bestCount 38 = .ok (.putfield 118, 3) := by decide +kernel
theorem dX7_bestCount_41 : decode cX7_bestCount 41 = .ok (.aload_n 0, 1) := by decide +kernel
theorem dX7_bestCount_42 : decode cX7_bestCount 42 = .ok (.getfield 19, 3) := by decide +kernel
theorem dX7_bestCount_45 : decode cX7_bestCount 45 = .ok (.aload_n 0, 1) := by decide +kernel
theorem dX7_bestCount_46 : decode cX7_bestCount 46 = .ok (.getfield 30, 3) := by decide +kernel
theorem dX7_bestCount_49 : decode cX7_bestCount 49 = .ok (.iconst 0, 1) := by decide +kernel
theorem dX7_bestCount_50 : decode cX7_bestCount 50 = .ok (.invokevirtual 87, 3) := by decide +kernel
theorem dX7_bestCount_53 : decode cX7_bestCount 53 = .ok (.aload_n 0, 1) := by decide +kernel
theorem dX7_bestCount_54 : decode cX7_bestCount 54 = .ok (.getfield 30, 3) := by decide +kernel
theorem dX7_bestCount_57 : decode cX7_bestCount 57 = .ok (.invokevirtual 168, 3) := by decide +kernel
theorem dX7_bestCount_60 : decode cX7_bestCount 60 = .ok (.aload_n 0, 1) := by decide +kernel
theorem dX7_bestCount_61 : decode cX7_bestCount 61 = .ok (.getfield 30, 3) := by decide +kernel
theorem dX7_bestCount_64 : decode cX7_bestCount 64 = .ok (.invokevirtual 171, 3) := by decide +kernel
theorem dX7_bestCount_67 : decode cX7_bestCount 67 = .ok (.istore 5, 2) := by decide +kernel
theorem dX7_bestCount_69 : decode cX7_bestCount 69 = .ok (.iload 4, 2) := by decide +kernel
theorem dX7_bestCount_71 : decode cX7_bestCount 71 = .ok (.iconst 1, 1) := by decide +kernel
theorem dX7_bestCount_72 : decode cX7_bestCount 72 = .ok (.if_icmp .eq 9, 3) := by decide +kernel
theorem dX7_bestCount_75 : decode cX7_bestCount 75 = .ok (.iload 5, 2) := by decide +kernel
theorem dX7_bestCount_77 : decode cX7_bestCount 77 = .ok (.iload_n 3, 1) := by decide +kernel
theorem dX7_bestCount_78 : decode cX7_bestCount 78 = .ok (.if_icmp .ge 9, 3) := by decide +kernel
theorem dX7_bestCount_81 : decode cX7_bestCount 81 = .ok (.iload 4, 2) := by decide +kernel
theorem dX7_bestCount_83 : decode cX7_bestCount 83 = .ok (.istore_n 2, 1) := by decide +kernel
theorem dX7_bestCount_84 : decode cX7_bestCount 84 = .ok (.iload 5, 2) := by decide +kernel
theorem dX7_bestCount_86 : decode cX7_bestCount 86 = .ok (.istore_n 3, 1) := by decide +kernel
theorem dX7_bestCount_87 : decode cX7_bestCount 87 = .ok (.iinc 4 1, 3) := by decide +kernel
theorem dX7_bestCount_90 : decode cX7_bestCount 90 = .ok (.goto (-83), 3) := by decide +kernel
theorem dX7_bestCount_93 : decode cX7_bestCount 93 = .ok (.iload_n 2, 1) := by decide +kernel
theorem dX7_bestCount_94 : decode cX7_bestCount 94 = .ok (.ireturn, 1) := by decide +kernel
theorem dX7_explainsAll_0 : decode cX7_explainsAll 0 = .ok (.iconst 0, 1) := by decide +kernel
theorem dX7_explainsAll_1 : decode cX7_explainsAll 1 = .ok (.istore_n 2, 1) := by decide +kernel
theorem dX7_explainsAll_2 : decode cX7_explainsAll 2 = .ok (.iload_n 2, 1) := by decide +kernel
theorem dX7_explainsAll_3 : decode cX7_explainsAll 3 = .ok (.aload_n 0, 1) := by decide +kernel
theorem dX7_explainsAll_4 : decode cX7_explainsAll 4 = .ok (.getfield 43, 3) := by decide +kernel
theorem dX7_explainsAll_7 : decode cX7_explainsAll 7 = .ok (.getfield 190, 3) := by decide +kernel
theorem dX7_explainsAll_10 : decode cX7_explainsAll 10 = .ok (.if_icmp .ge 73, 3) := by decide +kernel
theorem dX7_explainsAll_13 : decode cX7_explainsAll 13 = .ok (.aload_n 0, 1) := by decide +kernel
theorem dX7_explainsAll_14 : decode cX7_explainsAll 14 = .ok (.getfield 30, 3) := by decide +kernel
theorem dX7_explainsAll_17 : decode cX7_explainsAll 17 = .ok (.aload_n 0, 1) := by decide +kernel
theorem dX7_explainsAll_18 : decode cX7_explainsAll 18 = .ok (.getfield 19, 3) := by decide +kernel
theorem dX7_explainsAll_21 : decode cX7_explainsAll 21 = .ok (.getfield 81, 3) := by decide +kernel
theorem dX7_explainsAll_24 : decode cX7_explainsAll 24 = .ok (.invokevirtual 84, 3) := by decide +kernel
theorem dX7_explainsAll_27 : decode cX7_explainsAll 27 = .ok (.aload_n 0, 1) := by decide +kernel
theorem dX7_explainsAll_28 : decode cX7_explainsAll 28 = .ok (.getfield 30, 3) := by decide +kernel
theorem dX7_explainsAll_31 : decode cX7_explainsAll 31 = .ok (.getfield 240, 3) := by decide +kernel
theorem dX7_explainsAll_34 : decode cX7_explainsAll 34 = .ok (.iload_n 1, 1) := by decide +kernel
theorem dX7_explainsAll_35 : decode cX7_explainsAll 35 = .ok (.putfield 118, 3) := by decide +kernel
theorem dX7_explainsAll_38 : decode cX7_explainsAll 38 = .ok (.aload_n 0, 1) := by decide +kernel
theorem dX7_explainsAll_39 : decode cX7_explainsAll 39 = .ok (.getfield 19, 3) := by decide +kernel
theorem dX7_explainsAll_42 : decode cX7_explainsAll 42 = .ok (.aload_n 0, 1) := by decide +kernel
theorem dX7_explainsAll_43 : decode cX7_explainsAll 43 = .ok (.getfield 30, 3) := by decide +kernel
theorem dX7_explainsAll_46 : decode cX7_explainsAll 46 = .ok (.aload_n 0, 1) := by decide +kernel
theorem dX7_explainsAll_47 : decode cX7_explainsAll 47 = .ok (.getfield 43, 3) := by decide +kernel
theorem dX7_explainsAll_50 : decode cX7_explainsAll 50 = .ok (.iload_n 2, 1) := by decide +kernel
theorem dX7_explainsAll_51 : decode cX7_explainsAll 51 = .ok (.invokevirtual 244, 3) := by decide +kernel
theorem dX7_explainsAll_54 : decode cX7_explainsAll 54 = .ok (.invokevirtual 247, 3) := by decide +kernel
theorem dX7_explainsAll_57 : decode cX7_explainsAll 57 = .ok (.aload_n 0, 1) := by decide +kernel
theorem dX7_explainsAll_58 : decode cX7_explainsAll 58 = .ok (.getfield 30, 3) := by decide +kernel
theorem dX7_explainsAll_61 : decode cX7_explainsAll 61 = .ok (.getfield 250, 3) := by decide +kernel
theorem dX7_explainsAll_64 : decode cX7_explainsAll 64 = .ok (.aload_n 0, 1) := by decide +kernel
theorem dX7_explainsAll_65 : decode cX7_explainsAll 65 = .ok (.getfield 43, 3) := by decide +kernel
theorem dX7_explainsAll_68 : decode cX7_explainsAll 68 = .ok (.iload_n 2, 1) := by decide +kernel
theorem dX7_explainsAll_69 : decode cX7_explainsAll 69 = .ok (.invokevirtual 253, 3) := by decide +kernel
theorem dX7_explainsAll_72 : decode cX7_explainsAll 72 = .ok (.if_icmp .eq 5, 3) := by decide +kernel
theorem dX7_explainsAll_75 : decode cX7_explainsAll 75 = .ok (.iconst 0, 1) := by decide +kernel
theorem dX7_explainsAll_76 : decode cX7_explainsAll 76 = .ok (.ireturn, 1) := by decide +kernel
theorem dX7_explainsAll_77 : decode cX7_explainsAll 77 = .ok (.iinc 2 1, 3) := by decide +kernel
theorem dX7_explainsAll_80 : decode cX7_explainsAll 80 = .ok (.goto (-78), 3) := by decide +kernel
theorem dX7_explainsAll_83 : decode cX7_explainsAll 83 = .ok (.iconst 1, 1) := by decide +kernel
theorem dX7_explainsAll_84 : decode cX7_explainsAll 84 = .ok (.ireturn, 1) := by decide +kernel
theorem dX7_energyOf_0 : decode cX7_energyOf 0 = .ok (.aload_n 0, 1) := by decide +kernel
theorem dX7_energyOf_1 : decode cX7_energyOf 1 = .ok (.getfield 30, 3) := by decide +kernel
theorem dX7_energyOf_4 : decode cX7_energyOf 4 = .ok (.aload_n 0, 1) := by decide +kernel
theorem dX7_energyOf_5 : decode cX7_energyOf 5 = .ok (.getfield 19, 3) := by decide +kernel
theorem dX7_energyOf_8 : decode cX7_energyOf 8 = .ok (.getfield 81, 3) := by decide +kernel
theorem dX7_energyOf_11 : decode cX7_energyOf 11 = .ok (.invokevirtual 84, 3) := by decide +kernel
theorem dX7_energyOf_14 : decode cX7_energyOf 14 = .ok (.iload_n 1, 1) := by decide +kernel
theorem dX7_energyOf_15 : decode cX7_energyOf 15 = .ok (.iconst 1, 1) := by decide +kernel
theorem dX7_energyOf_16 : decode cX7_energyOf 16 = .ok (.iand, 1) := by decide +kernel
theorem dX7_energyOf_17 : decode cX7_energyOf 17 = .ok (.ifCond .ne 14, 3) := by decide +kernel
theorem dX7_energyOf_20 : decode cX7_energyOf 20 = .ok (.aload_n 0, 1) := by decide +kernel
theorem dX7_energyOf_21 : decode cX7_energyOf 21 = .ok (.getfield 30, 3) := by decide +kernel
theorem dX7_energyOf_24 : decode cX7_energyOf 24 = .ok (.getfield 240, 3) := by decide +kernel
theorem dX7_energyOf_27 : decode cX7_energyOf 27 = .ok (.iconst 1, 1) := by decide +kernel
theorem dX7_energyOf_28 : decode cX7_energyOf 28 = .ok (.putfield 118, 3) := by decide +kernel
theorem dX7_energyOf_31 : decode cX7_energyOf 31 = .ok (.iload_n 1, 1) := by decide +kernel
theorem dX7_energyOf_32 : decode cX7_energyOf 32 = .ok (.iconst 2, 1) := by decide +kernel
theorem dX7_energyOf_33 : decode cX7_energyOf 33 = .ok (.iand, 1) := by decide +kernel
theorem dX7_energyOf_34 : decode cX7_energyOf 34 = .ok (.ifCond .ne 14, 3) := by decide +kernel
theorem dX7_energyOf_37 : decode cX7_energyOf 37 = .ok (.aload_n 0, 1) := by decide +kernel
theorem dX7_energyOf_38 : decode cX7_energyOf 38 = .ok (.getfield 30, 3) := by decide +kernel
theorem dX7_energyOf_41 : decode cX7_energyOf 41 = .ok (.getfield 256, 3) := by decide +kernel
theorem dX7_energyOf_44 : decode cX7_energyOf 44 = .ok (.iconst 1, 1) := by decide +kernel
theorem dX7_energyOf_45 : decode cX7_energyOf 45 = .ok (.putfield 118, 3) := by decide +kernel
theorem dX7_energyOf_48 : decode cX7_energyOf 48 = .ok (.aload_n 0, 1) := by decide +kernel
theorem dX7_energyOf_49 : decode cX7_energyOf 49 = .ok (.getfield 30, 3) := by decide +kernel
theorem dX7_energyOf_52 : decode cX7_energyOf 52 = .ok (.iload_n 1, 1) := by decide +kernel
theorem dX7_energyOf_53 : decode cX7_energyOf 53 = .ok (.iconst 4, 1) := by decide +kernel
theorem dX7_energyOf_54 : decode cX7_energyOf 54 = .ok (.iand, 1) := by decide +kernel
theorem dX7_energyOf_55 : decode cX7_energyOf 55 = .ok (.ifCond .eq 7, 3) := by decide +kernel
theorem dX7_energyOf_58 : decode cX7_energyOf 58 = .ok (.iconst 1, 1) := by decide +kernel
theorem dX7_energyOf_59 : decode cX7_energyOf 59 = .ok (.goto 4, 3) := by decide +kernel
theorem dX7_energyOf_62 : decode cX7_energyOf 62 = .ok (.iconst 0, 1) := by decide +kernel
theorem dX7_energyOf_63 : decode cX7_energyOf 63 = .ok (.putfield 259, 3) := by decide +kernel
theorem dX7_energyOf_66 : decode cX7_energyOf 66 = .ok (.aload_n 0, 1) := by decide +kernel
theorem dX7_energyOf_67 : decode cX7_energyOf 67 = .ok (.getfield 19, 3) := by decide +kernel
theorem dX7_energyOf_70 : decode cX7_energyOf 70 = .ok (.aload_n 0, 1) := by decide +kernel
theorem dX7_energyOf_71 : decode cX7_energyOf 71 = .ok (.getfield 30, 3) := by decide +kernel
theorem dX7_energyOf_74 : decode cX7_energyOf 74 = .ok (.iload_n 2, 1) := by decide +kernel
theorem dX7_energyOf_75 : decode cX7_energyOf 75 = .ok (.invokevirtual 87, 3) := by decide +kernel
theorem dX7_energyOf_78 : decode cX7_energyOf 78 = .ok (.aload_n 0, 1) := by decide +kernel
theorem dX7_energyOf_79 : decode cX7_energyOf 79 = .ok (.getfield 30, 3) := by decide +kernel
theorem dX7_energyOf_82 : decode cX7_energyOf 82 = .ok (.invokevirtual 168, 3) := by decide +kernel
theorem dX7_energyOf_85 : decode cX7_energyOf 85 = .ok (.aload_n 0, 1) := by decide +kernel
theorem dX7_energyOf_86 : decode cX7_energyOf 86 = .ok (.getfield 30, 3) := by decide +kernel
theorem dX7_energyOf_89 : decode cX7_energyOf 89 = .ok (.getfield 174, 3) := by decide +kernel
theorem dX7_energyOf_92 : decode cX7_energyOf 92 = .ok (.ireturn, 1) := by decide +kernel
theorem dX7_ordersBehind_0 : decode cX7_ordersBehind 0 = .ok (.iload_n 0, 1) := by decide +kernel
theorem dX7_ordersBehind_1 : decode cX7_ordersBehind 1 = .ok (.invokestatic 262, 3) := by decide +kernel
theorem dX7_ordersBehind_4 : decode cX7_ordersBehind 4 = .ok (.iconst 1, 1) := by decide +kernel
theorem dX7_ordersBehind_5 : decode cX7_ordersBehind 5 = .ok (.if_icmp .ne 7, 3) := by decide +kernel
theorem dX7_ordersBehind_8 : decode cX7_ordersBehind 8 = .ok (.iconst 1, 1) := by decide +kernel
theorem dX7_ordersBehind_9 : decode cX7_ordersBehind 9 = .ok (.goto 4, 3) := by decide +kernel
theorem dX7_ordersBehind_12 : decode cX7_ordersBehind 12 = .ok (.iconst 2, 1) := by decide +kernel
theorem dX7_ordersBehind_13 : decode cX7_ordersBehind 13 = .ok (.ireturn, 1) := by decide +kernel
theorem dX7_weightOf_0 : decode cX7_weightOf 0 = .ok (.iconst 1, 1) := by decide +kernel
theorem dX7_weightOf_1 : decode cX7_weightOf 1 = .ok (.istore_n 3, 1) := by decide +kernel
theorem dX7_weightOf_2 : decode cX7_weightOf 2 = .ok (.iconst 0, 1) := by decide +kernel
theorem dX7_weightOf_3 : decode cX7_weightOf 3 = .ok (.istore 4, 2) := by decide +kernel
theorem dX7_weightOf_5 : decode cX7_weightOf 5 = .ok (.iload 4, 2) := by decide +kernel
theorem dX7_weightOf_7 : decode cX7_weightOf 7 = .ok (.iload_n 1, 1) := by decide +kernel
theorem dX7_weightOf_8 : decode cX7_weightOf 8 = .ok (.if_icmp .ge 30, 3) := by decide +kernel
theorem dX7_weightOf_11 : decode cX7_weightOf 11 = .ok (.iload_n 3, 1) := by decide +kernel
theorem dX7_weightOf_12 : decode cX7_weightOf 12 = .ok (.iload_n 0, 1) := by decide +kernel
theorem dX7_weightOf_13 : decode cX7_weightOf 13 = .ok (.iload 4, 2) := by decide +kernel
theorem dX7_weightOf_15 : decode cX7_weightOf 15 = .ok (.ishr, 1) := by decide +kernel
theorem dX7_weightOf_16 : decode cX7_weightOf 16 = .ok (.iconst 1, 1) := by decide +kernel
theorem dX7_weightOf_17 : decode cX7_weightOf 17 = .ok (.iand, 1) := by decide +kernel
theorem dX7_weightOf_18 : decode cX7_weightOf 18 = .ok (.iconst 1, 1) := by decide +kernel
theorem dX7_weightOf_19 : decode cX7_weightOf 19 = .ok (.if_icmp .ne 7, 3) := by decide +kernel
theorem dX7_weightOf_22 : decode cX7_weightOf 22 = .ok (.iload_n 2, 1) := by decide +kernel
theorem dX7_weightOf_23 : decode cX7_weightOf 23 = .ok (.goto 7, 3) := by decide +kernel
theorem dX7_weightOf_26 : decode cX7_weightOf 26 = .ok (.bipush 10, 2) := by decide +kernel
theorem dX7_weightOf_28 : decode cX7_weightOf 28 = .ok (.iload_n 2, 1) := by decide +kernel
theorem dX7_weightOf_29 : decode cX7_weightOf 29 = .ok (.isub, 1) := by decide +kernel
theorem dX7_weightOf_30 : decode cX7_weightOf 30 = .ok (.imul, 1) := by decide +kernel
theorem dX7_weightOf_31 : decode cX7_weightOf 31 = .ok (.istore_n 3, 1) := by decide +kernel
theorem dX7_weightOf_32 : decode cX7_weightOf 32 = .ok (.iinc 4 1, 3) := by decide +kernel
theorem dX7_weightOf_35 : decode cX7_weightOf 35 = .ok (.goto (-30), 3) := by decide +kernel
theorem dX7_weightOf_38 : decode cX7_weightOf 38 = .ok (.iload_n 3, 1) := by decide +kernel
theorem dX7_weightOf_39 : decode cX7_weightOf 39 = .ok (.ireturn, 1) := by decide +kernel
theorem dX7_fraction_0 : decode cX7_fraction 0 = .ok (.iload_n 0, 1) := by decide +kernel
theorem dX7_fraction_1 : decode cX7_fraction 1 = .ok (.invokestatic 267, 3) := by decide +kernel
theorem dX7_fraction_4 : decode cX7_fraction 4 = .ok (.iload_n 1, 1) := by decide +kernel
theorem dX7_fraction_5 : decode cX7_fraction 5 = .ok (.invokestatic 270, 3) := by decide +kernel
theorem dX7_fraction_8 : decode cX7_fraction 8 = .ok (.istore_n 3, 1) := by decide +kernel
theorem dX7_fraction_9 : decode cX7_fraction 9 = .ok (.iload_n 3, 1) := by decide +kernel
theorem dX7_fraction_10 : decode cX7_fraction 10 = .ok (.ifCond .ne 13, 3) := by decide +kernel
theorem dX7_fraction_13 : decode cX7_fraction 13 = .ok (.iload_n 2, 1) := by decide +kernel
theorem dX7_fraction_14 : decode cX7_fraction 14 = .ok (.ifCond .eq 7, 3) := by decide +kernel
theorem dX7_fraction_17 : decode cX7_fraction 17 = .ok (.iload_n 0, 1) := by decide +kernel
theorem dX7_fraction_18 : decode cX7_fraction 18 = .ok (.goto 4, 3) := by decide +kernel
theorem dX7_fraction_21 : decode cX7_fraction 21 = .ok (.iload_n 1, 1) := by decide +kernel
theorem dX7_fraction_22 : decode cX7_fraction 22 = .ok (.ireturn, 1) := by decide +kernel
theorem dX7_fraction_23 : decode cX7_fraction 23 = .ok (.iload_n 2, 1) := by decide +kernel
theorem dX7_fraction_24 : decode cX7_fraction 24 = .ok (.ifCond .eq 9, 3) := by decide +kernel
theorem dX7_fraction_27 : decode cX7_fraction 27 = .ok (.iload_n 0, 1) := by decide +kernel
theorem dX7_fraction_28 : decode cX7_fraction 28 = .ok (.iload_n 3, 1) := by decide +kernel
theorem dX7_fraction_29 : decode cX7_fraction 29 = .ok (.idiv, 1) := by decide +kernel
theorem dX7_fraction_30 : decode cX7_fraction 30 = .ok (.goto 6, 3) := by decide +kernel
theorem dX7_fraction_33 : decode cX7_fraction 33 = .ok (.iload_n 1, 1) := by decide +kernel
theorem dX7_fraction_34 : decode cX7_fraction 34 = .ok (.iload_n 3, 1) := by decide +kernel
theorem dX7_fraction_35 : decode cX7_fraction 35 = .ok (.idiv, 1) := by decide +kernel
theorem dX7_fraction_36 : decode cX7_fraction 36 = .ok (.ireturn, 1) := by decide +kernel
theorem dX7_commonDivisor_0 : decode cX7_commonDivisor 0 = .ok (.iload_n 0, 1) := by decide +kernel
theorem dX7_commonDivisor_1 : decode cX7_commonDivisor 1 = .ok (.istore_n 2, 1) := by decide +kernel
theorem dX7_commonDivisor_2 : decode cX7_commonDivisor 2 = .ok (.iload_n 1, 1) := by decide +kernel
theorem dX7_commonDivisor_3 : decode cX7_commonDivisor 3 = .ok (.istore_n 3, 1) := by decide +kernel
theorem dX7_commonDivisor_4 : decode cX7_commonDivisor 4 = .ok (.iconst 0, 1) := by decide +kernel
theorem dX7_commonDivisor_5 : decode cX7_commonDivisor 5 = .ok (.istore 4, 2) := by decide +kernel
theorem dX7_commonDivisor_7 : decode cX7_commonDivisor 7 = .ok (.iload 4, 2) := by decide +kernel
theorem dX7_commonDivisor_9 : decode cX7_commonDivisor 9 = .ok (.bipush 64, 2) := by decide +kernel
theorem dX7_commonDivisor_11 : decode cX7_commonDivisor 11 = .ok (.if_icmp .ge 23, 3) := by decide +kernel
theorem dX7_commonDivisor_14 : decode cX7_commonDivisor 14 = .ok (.iload_n 3, 1) := by decide +kernel
theorem dX7_commonDivisor_15 : decode cX7_commonDivisor 15 = .ok (.ifCond .eq 19, 3) := by decide +kernel
theorem dX7_commonDivisor_18 : decode cX7_commonDivisor 18 = .ok (.iload_n 2, 1) := by decide +kernel
theorem dX7_commonDivisor_19 : decode cX7_commonDivisor 19 = .ok (.iload_n 3, 1) := by decide +kernel
theorem dX7_commonDivisor_20 : decode cX7_commonDivisor 20 = .ok (.irem, 1) := by decide +kernel
theorem dX7_commonDivisor_21 : decode cX7_commonDivisor 21 = .ok (.istore 5, 2) := by decide +kernel
theorem dX7_commonDivisor_23 : decode cX7_commonDivisor 23 = .ok (.iload_n 3, 1) := by decide +kernel
theorem dX7_commonDivisor_24 : decode cX7_commonDivisor 24 = .ok (.istore_n 2, 1) := by decide +kernel
theorem dX7_commonDivisor_25 : decode cX7_commonDivisor 25 = .ok (.iload 5, 2) := by decide +kernel
theorem dX7_commonDivisor_27 : decode cX7_commonDivisor 27 = .ok (.istore_n 3, 1) := by decide +kernel
theorem dX7_commonDivisor_28 : decode cX7_commonDivisor 28 = .ok (.iinc 4 1, 3) := by decide +kernel
theorem dX7_commonDivisor_31 : decode cX7_commonDivisor 31 = .ok (.goto (-24), 3) := by decide +kernel
theorem dX7_commonDivisor_34 : decode cX7_commonDivisor 34 = .ok (.iload_n 2, 1) := by decide +kernel
theorem dX7_commonDivisor_35 : decode cX7_commonDivisor 35 = .ok (.ireturn, 1) := by decide +kernel
theorem dJ6_bitCount_0f7a4_0 : decode cJ6_bitCount_0f7a4 0 = .ok (.iload_n 0, 1) := by decide +kernel
theorem dJ6_bitCount_0f7a4_1 : decode cJ6_bitCount_0f7a4 1 = .ok (.iload_n 0, 1) := by decide +kernel
theorem dJ6_bitCount_0f7a4_2 : decode cJ6_bitCount_0f7a4 2 = .ok (.iconst 1, 1) := by decide +kernel
theorem dJ6_bitCount_0f7a4_3 : decode cJ6_bitCount_0f7a4 3 = .ok (.iushr, 1) := by decide +kernel
theorem dJ6_bitCount_0f7a4_4 : decode cJ6_bitCount_0f7a4 4 = .ok (.ldc_w 265, 3) := by decide +kernel
theorem dJ6_bitCount_0f7a4_7 : decode cJ6_bitCount_0f7a4 7 = .ok (.iand, 1) := by decide +kernel
theorem dJ6_bitCount_0f7a4_8 : decode cJ6_bitCount_0f7a4 8 = .ok (.isub, 1) := by decide +kernel
theorem dJ6_bitCount_0f7a4_9 : decode cJ6_bitCount_0f7a4 9 = .ok (.istore_n 0, 1) := by decide +kernel
theorem dJ6_bitCount_0f7a4_10 : decode cJ6_bitCount_0f7a4 10 = .ok (.iload_n 0, 1) := by decide +kernel
theorem dJ6_bitCount_0f7a4_11 : decode cJ6_bitCount_0f7a4 11 = .ok (.ldc_w 266, 3) := by decide +kernel
theorem dJ6_bitCount_0f7a4_14 : decode cJ6_bitCount_0f7a4 14 = .ok (.iand, 1) := by decide +kernel
theorem dJ6_bitCount_0f7a4_15 : decode cJ6_bitCount_0f7a4 15 = .ok (.iload_n 0, 1) := by decide +kernel
theorem dJ6_bitCount_0f7a4_16 : decode cJ6_bitCount_0f7a4 16 = .ok (.iconst 2, 1) := by decide +kernel
theorem dJ6_bitCount_0f7a4_17 : decode cJ6_bitCount_0f7a4 17 = .ok (.iushr, 1) := by decide +kernel
theorem dJ6_bitCount_0f7a4_18 : decode cJ6_bitCount_0f7a4 18 = .ok (.ldc_w 266, 3) := by decide +kernel
theorem dJ6_bitCount_0f7a4_21 : decode cJ6_bitCount_0f7a4 21 = .ok (.iand, 1) := by decide +kernel
theorem dJ6_bitCount_0f7a4_22 : decode cJ6_bitCount_0f7a4 22 = .ok (.iadd, 1) := by decide +kernel
theorem dJ6_bitCount_0f7a4_23 : decode cJ6_bitCount_0f7a4 23 = .ok (.istore_n 0, 1) := by decide +kernel
theorem dJ6_bitCount_0f7a4_24 : decode cJ6_bitCount_0f7a4 24 = .ok (.iload_n 0, 1) := by decide +kernel
theorem dJ6_bitCount_0f7a4_25 : decode cJ6_bitCount_0f7a4 25 = .ok (.iload_n 0, 1) := by decide +kernel
theorem dJ6_bitCount_0f7a4_26 : decode cJ6_bitCount_0f7a4 26 = .ok (.iconst 4, 1) := by decide +kernel
theorem dJ6_bitCount_0f7a4_27 : decode cJ6_bitCount_0f7a4 27 = .ok (.iushr, 1) := by decide +kernel
theorem dJ6_bitCount_0f7a4_28 : decode cJ6_bitCount_0f7a4 28 = .ok (.iadd, 1) := by decide +kernel
theorem dJ6_bitCount_0f7a4_29 : decode cJ6_bitCount_0f7a4 29 = .ok (.ldc_w 267, 3) := by decide +kernel
theorem dJ6_bitCount_0f7a4_32 : decode cJ6_bitCount_0f7a4 32 = .ok (.iand, 1) := by decide +kernel
theorem dJ6_bitCount_0f7a4_33 : decode cJ6_bitCount_0f7a4 33 = .ok (.istore_n 0, 1) := by decide +kernel
theorem dJ6_bitCount_0f7a4_34 : decode cJ6_bitCount_0f7a4 34 = .ok (.iload_n 0, 1) := by decide +kernel
theorem dJ6_bitCount_0f7a4_35 : decode cJ6_bitCount_0f7a4 35 = .ok (.iload_n 0, 1) := by decide +kernel
theorem dJ6_bitCount_0f7a4_36 : decode cJ6_bitCount_0f7a4 36 = .ok (.bipush 8, 2) := by decide +kernel
theorem dJ6_bitCount_0f7a4_38 : decode cJ6_bitCount_0f7a4 38 = .ok (.iushr, 1) := by decide +kernel
theorem dJ6_bitCount_0f7a4_39 : decode cJ6_bitCount_0f7a4 39 = .ok (.iadd, 1) := by decide +kernel
theorem dJ6_bitCount_0f7a4_40 : decode cJ6_bitCount_0f7a4 40 = .ok (.istore_n 0, 1) := by decide +kernel
theorem dJ6_bitCount_0f7a4_41 : decode cJ6_bitCount_0f7a4 41 = .ok (.iload_n 0, 1) := by decide +kernel
theorem dJ6_bitCount_0f7a4_42 : decode cJ6_bitCount_0f7a4 42 = .ok (.iload_n 0, 1) := by decide +kernel
theorem dJ6_bitCount_0f7a4_43 : decode cJ6_bitCount_0f7a4 43 = .ok (.bipush 16, 2) := by decide +kernel
theorem dJ6_bitCount_0f7a4_45 : decode cJ6_bitCount_0f7a4 45 = .ok (.iushr, 1) := by decide +kernel
theorem dJ6_bitCount_0f7a4_46 : decode cJ6_bitCount_0f7a4 46 = .ok (.iadd, 1) := by decide +kernel
theorem dJ6_bitCount_0f7a4_47 : decode cJ6_bitCount_0f7a4 47 = .ok (.istore_n 0, 1) := by decide +kernel
theorem dJ6_bitCount_0f7a4_48 : decode cJ6_bitCount_0f7a4 48 = .ok (.iload_n 0, 1) := by decide +kernel
theorem dJ6_bitCount_0f7a4_49 : decode cJ6_bitCount_0f7a4 49 = .ok (.bipush 63, 2) := by decide +kernel
theorem dJ6_bitCount_0f7a4_51 : decode cJ6_bitCount_0f7a4 51 = .ok (.iand, 1) := by decide +kernel
theorem dJ6_bitCount_0f7a4_52 : decode cJ6_bitCount_0f7a4 52 = .ok (.ireturn, 1) := by decide +kernel
theorem dJ9_abs_0f7a4_0 : decode cJ9_abs_0f7a4 0 = .ok (.iload_n 0, 1) := by decide +kernel
theorem dJ9_abs_0f7a4_1 : decode cJ9_abs_0f7a4 1 = .ok (.ifCond .ge 8, 3) := by decide +kernel
theorem dJ9_abs_0f7a4_4 : decode cJ9_abs_0f7a4 4 = .ok (.iload_n 0, 1) := by decide +kernel
theorem dJ9_abs_0f7a4_5 : decode cJ9_abs_0f7a4 5 = .ok (.ineg, 1) := by decide +kernel
theorem dJ9_abs_0f7a4_6 : decode cJ9_abs_0f7a4 6 = .ok (.goto 4, 3) := by decide +kernel
theorem dJ9_abs_0f7a4_9 : decode cJ9_abs_0f7a4 9 = .ok (.iload_n 0, 1) := by decide +kernel
theorem dJ9_abs_0f7a4_10 : decode cJ9_abs_0f7a4 10 = .ok (.ireturn, 1) := by decide +kernel
theorem dJ9_max_7cf53_0 : decode cJ9_max_7cf53 0 = .ok (.iload_n 0, 1) := by decide +kernel
theorem dJ9_max_7cf53_1 : decode cJ9_max_7cf53 1 = .ok (.iload_n 1, 1) := by decide +kernel
theorem dJ9_max_7cf53_2 : decode cJ9_max_7cf53 2 = .ok (.if_icmp .lt 7, 3) := by decide +kernel
theorem dJ9_max_7cf53_5 : decode cJ9_max_7cf53 5 = .ok (.iload_n 0, 1) := by decide +kernel
theorem dJ9_max_7cf53_6 : decode cJ9_max_7cf53 6 = .ok (.goto 4, 3) := by decide +kernel
theorem dJ9_max_7cf53_9 : decode cJ9_max_7cf53 9 = .ok (.iload_n 1, 1) := by decide +kernel
theorem dJ9_max_7cf53_10 : decode cJ9_max_7cf53 10 = .ok (.ireturn, 1) := by decide +kernel
theorem dJ9_min_7cf53_0 : decode cJ9_min_7cf53 0 = .ok (.iload_n 0, 1) := by decide +kernel
theorem dJ9_min_7cf53_1 : decode cJ9_min_7cf53 1 = .ok (.iload_n 1, 1) := by decide +kernel
theorem dJ9_min_7cf53_2 : decode cJ9_min_7cf53 2 = .ok (.if_icmp .gt 7, 3) := by decide +kernel
theorem dJ9_min_7cf53_5 : decode cJ9_min_7cf53 5 = .ok (.iload_n 0, 1) := by decide +kernel
theorem dJ9_min_7cf53_6 : decode cJ9_min_7cf53 6 = .ok (.goto 4, 3) := by decide +kernel
theorem dJ9_min_7cf53_9 : decode cJ9_min_7cf53 9 = .ok (.iload_n 1, 1) := by decide +kernel
theorem dJ9_min_7cf53_10 : decode cJ9_min_7cf53 10 = .ok (.ireturn, 1) := by decide +kernel
end
section
theorem dX8_init_0 : decode cX8_init 0 = .ok (.aload_n 0, 1) := by decide +kernel
theorem dX8_init_1 : decode cX8_init 1 = .ok (.invokespecial 1, 3) := by decide +kernel
theorem dX8_init_4 : decode cX8_init 4 = .ok (.aload_n 0, 1) := by decide +kernel
theorem dX8_init_5 : decode cX8_init 5 = .ok (.bipush 80, 2) := by decide +kernel
theorem dX8_init_7 : decode cX8_init 7 = .ok (.newarray .int, 2) := by decide +kernel
theorem dX8_init_9 : decode cX8_init 9 = .ok (.putfield 7, 3) := by decide +kernel
theorem dX8_init_12 : decode cX8_init 12 = .ok (.aload_n 0, 1) := by decide +kernel
theorem dX8_init_13 : decode cX8_init 13 = .ok (.bipush 39, 2) := by decide +kernel
theorem dX8_init_15 : decode cX8_init 15 = .ok (.newarray .int, 2) := by decide +kernel
theorem dX8_init_17 : decode cX8_init 17 = .ok (.putfield 13, 3) := by decide +kernel
theorem dX8_init_20 : decode cX8_init 20 = .ok (.aload_n 0, 1) := by decide +kernel
theorem dX8_init_21 : decode cX8_init 21 = .ok (.bipush 80, 2) := by decide +kernel
theorem dX8_init_23 : decode cX8_init 23 = .ok (.newarray .int, 2) := by decide +kernel
theorem dX8_init_25 : decode cX8_init 25 = .ok (.putfield 16, 3) := by decide +kernel
theorem dX8_init_28 : decode cX8_init 28 = .ok (.aload_n 0, 1) := by decide +kernel
theorem dX8_init_29 : decode cX8_init 29 = .ok (.bipush 39, 2) := by decide +kernel
theorem dX8_init_31 : decode cX8_init 31 = .ok (.newarray .int, 2) := by decide +kernel
theorem dX8_init_33 : decode cX8_init 33 = .ok (.putfield 19, 3) := by decide +kernel
theorem dX8_init_36 : decode cX8_init 36 = .ok (.aload_n 0, 1) := by decide +kernel
theorem dX8_init_37 : decode cX8_init 37 = .ok (.bipush 39, 2) := by decide +kernel
theorem dX8_init_39 : decode cX8_init 39 = .ok (.newarray .int, 2) := by decide +kernel
theorem dX8_init_41 : decode cX8_init 41 = .ok (.putfield 22, 3) := by decide +kernel
theorem dX8_init_44 : decode cX8_init 44 = .ok (.aload_n 0, 1) := by decide +kernel
theorem dX8_init_45 : decode cX8_init 45 = .ok (.bipush 80, 2) := by decide +kernel
theorem dX8_init_47 : decode cX8_init 47 = .ok (.newarray .int, 2) := by decide +kernel
theorem dX8_init_49 : decode cX8_init 49 = .ok (.putfield 25, 3) := by decide +kernel
theorem dX8_init_52 : decode cX8_init 52 = .ok (.aload_n 0, 1) := by decide +kernel
theorem dX8_init_53 : decode cX8_init 53 = .ok (.bipush 39, 2) := by decide +kernel
theorem dX8_init_55 : decode cX8_init 55 = .ok (.newarray .int, 2) := by decide +kernel
theorem dX8_init_57 : decode cX8_init 57 = .ok (.putfield 28, 3) := by decide +kernel
theorem dX8_init_60 : decode cX8_init 60 = .ok (.aload_n 0, 1) := by decide +kernel
theorem dX8_init_61 : decode cX8_init 61 = .ok (.sipush 546, 3) := by decide +kernel
theorem dX8_init_64 : decode cX8_init 64 = .ok (.newarray .int, 2) := by decide +kernel
theorem dX8_init_66 : decode cX8_init 66 = .ok (.putfield 31, 3) := by decide +kernel
theorem dX8_init_69 : decode cX8_init 69 = .ok (.aload_n 0, 1) := by decide +kernel
theorem dX8_init_70 : decode cX8_init 70 = .ok (.bipush 78, 2) := by decide +kernel
theorem dX8_init_72 : decode cX8_init 72 = .ok (.newarray .int, 2) := by decide +kernel
theorem dX8_init_74 : decode cX8_init 74 = .ok (.putfield 34, 3) := by decide +kernel
theorem dX8_init_77 : decode cX8_init 77 = .ok (.aload_n 0, 1) := by decide +kernel
theorem dX8_init_78 : decode cX8_init 78 = .ok (.iconst 2, 1) := by decide +kernel
theorem dX8_init_79 : decode cX8_init 79 = .ok (.newarray .boolean, 2) := by decide +kernel
theorem dX8_init_81 : decode cX8_init 81 = .ok (.putfield 37, 3) := by decide +kernel
theorem dX8_init_84 : decode cX8_init 84 = .ok (.aload_n 0, 1) := by decide +kernel
theorem dX8_init_85 : decode cX8_init 85 = .ok (.bipush 6, 2) := by decide +kernel
theorem dX8_init_87 : decode cX8_init 87 = .ok (.newarray .int, 2) := by decide +kernel
theorem dX8_init_89 : decode cX8_init 89 = .ok (.putfield 41, 3) := by decide +kernel
theorem dX8_init_92 : decode cX8_init 92 = .ok (.aload_n 0, 1) := by decide +kernel
theorem dX8_init_93 : decode cX8_init 93 = .ok (.bipush 6, 2) := by decide +kernel
theorem dX8_init_95 : decode cX8_init 95 = .ok (.newarray .int, 2) := by decide +kernel
theorem dX8_init_97 : decode cX8_init 97 = .ok (.putfield 44, 3) := by decide +kernel
theorem dX8_init_100 : decode cX8_init 100 = .ok (.aload_n 0, 1) := by decide +kernel
theorem dX8_init_101 : decode cX8_init 101 = .ok (.bipush 100, 2) := by decide +kernel
theorem dX8_init_103 : decode cX8_init 103 = .ok (.newarray .int, 2) := by decide +kernel
theorem dX8_init_105 : decode cX8_init 105 = .ok (.putfield 47, 3) := by decide +kernel
theorem dX8_init_108 : decode cX8_init 108 = .ok (.aload_n 0, 1) := by decide +kernel
theorem dX8_init_109 : decode cX8_init 109 = .ok (.bipush 7, 2) := by decide +kernel
theorem dX8_init_111 : decode cX8_init 111 = .ok (.putfield 50, 3) := by decide +kernel
theorem dX8_init_114 : decode cX8_init 114 = .ok (.aload_n 0, 1) := by decide +kernel
theorem dX8_init_115 : decode cX8_init 115 = .ok (.getfield 19, 3) := by decide +kernel
theorem dX8_init_118 : decode cX8_init 118 = .ok (.invokestatic 54, 3) := by decide +kernel
theorem dX8_init_121 : decode cX8_init 121 = .ok (.aload_n 0, 1) := by decide +kernel
theorem dX8_init_122 : decode cX8_init 122 = .ok (.getfield 22, 3) := by decide +kernel
theorem dX8_init_125 : decode cX8_init 125 = .ok (.invokestatic 54, 3) := by decide +kernel
theorem dX8_init_128 : decode cX8_init 128 = .ok (.return_, 1) := by decide +kernel
theorem dX8_in_0 : decode cX8_in 0 = .ok (.lload_n 0, 1) := by decide +kernel
theorem dX8_in_1 : decode cX8_in 1 = .ok (.lload_n 2, 1) := by decide +kernel
theorem dX8_in_2 : decode cX8_in 2 = .ok (.lcmp, 1) := by decide +kernel
theorem dX8_in_3 : decode cX8_in 3 = .ok (.ifCond .lt 14, 3) := by decide +kernel
theorem dX8_in_6 : decode cX8_in 6 = .ok (.lload_n 0, 1) := by decide +kernel
theorem dX8_in_7 : decode cX8_in 7 = .ok (.lload 4, 2) := by decide +kernel
theorem dX8_in_9 : decode cX8_in 9 = .ok (.lcmp, 1) := by decide +kernel
theorem dX8_in_10 : decode cX8_in 10 = .ok (.ifCond .gt 7, 3) := by decide +kernel
theorem dX8_in_13 : decode cX8_in 13 = .ok (.iconst 1, 1) := by decide +kernel
theorem dX8_in_14 : decode cX8_in 14 = .ok (.goto 4, 3) := by decide +kernel
theorem dX8_in_17 : decode cX8_in 17 = .ok (.iconst 0, 1) := by decide +kernel
theorem dX8_in_18 : decode cX8_in 18 = .ok (.ireturn, 1) := by decide +kernel
theorem dX8_has_0 : decode cX8_has 0 = .ok (.iload_n 0, 1) := by decide +kernel
theorem dX8_has_1 : decode cX8_has 1 = .ok (.iload_n 1, 1) := by decide +kernel
theorem dX8_has_2 : decode cX8_has 2 = .ok (.ishr, 1) := by decide +kernel
theorem dX8_has_3 : decode cX8_has 3 = .ok (.iconst 1, 1) := by decide +kernel
theorem dX8_has_4 : decode cX8_has 4 = .ok (.iand, 1) := by decide +kernel
theorem dX8_has_5 : decode cX8_has 5 = .ok (.iconst 1, 1) := by decide +kernel
theorem dX8_has_6 : decode cX8_has 6 = .ok (.if_icmp .ne 7, 3) := by decide +kernel
theorem dX8_has_9 : decode cX8_has 9 = .ok (.iconst 1, 1) := by decide +kernel
theorem dX8_has_10 : decode cX8_has 10 = .ok (.goto 4, 3) := by decide +kernel
theorem dX8_has_13 : decode cX8_has 13 = .ok (.iconst 0, 1) := by decide +kernel
theorem dX8_has_14 : decode cX8_has 14 = .ok (.ireturn, 1) := by decide +kernel
theorem dX8_ones_0 : decode cX8_ones 0 = .ok (.iconst 0, 1) := by decide +kernel
theorem dX8_ones_1 : decode cX8_ones 1 = .ok (.istore_n 1, 1) := by decide +kernel
theorem dX8_ones_2 : decode cX8_ones 2 = .ok (.iconst 0, 1) := by decide +kernel
theorem dX8_ones_3 : decode cX8_ones 3 = .ok (.istore_n 2, 1) := by decide +kernel
theorem dX8_ones_4 : decode cX8_ones 4 = .ok (.iload_n 2, 1) := by decide +kernel
theorem dX8_ones_5 : decode cX8_ones 5 = .ok (.bipush 12, 2) := by decide +kernel
theorem dX8_ones_7 : decode cX8_ones 7 = .ok (.if_icmp .ge 17, 3) := by decide +kernel
theorem dX8_ones_10 : decode cX8_ones 10 = .ok (.iload_n 1, 1) := by decide +kernel
theorem dX8_ones_11 : decode cX8_ones 11 = .ok (.iload_n 0, 1) := by decide +kernel
theorem dX8_ones_12 : decode cX8_ones 12 = .ok (.iload_n 2, 1) := by decide +kernel
theorem dX8_ones_13 : decode cX8_ones 13 = .ok (.ishr, 1) := by decide +kernel
theorem dX8_ones_14 : decode cX8_ones 14 = .ok (.iconst 1, 1) := by decide +kernel
theorem dX8_ones_15 : decode cX8_ones 15 = .ok (.iand, 1) := by decide +kernel
theorem dX8_ones_16 : decode cX8_ones 16 = .ok (.iadd, 1) := by decide +kernel
theorem dX8_ones_17 : decode cX8_ones 17 = .ok (.istore_n 1, 1) := by decide +kernel
theorem dX8_ones_18 : decode cX8_ones 18 = .ok (.iinc 2 1, 3) := by decide +kernel
theorem dX8_ones_21 : decode cX8_ones 21 = .ok (.goto (-17), 3) := by decide +kernel
theorem dX8_ones_24 : decode cX8_ones 24 = .ok (.iload_n 1, 1) := by decide +kernel
theorem dX8_ones_25 : decode cX8_ones 25 = .ok (.ireturn, 1) := by decide +kernel
theorem dX8_power_0 : decode cX8_power 0 = .ok (.iconst 1, 1) := by decide +kernel
theorem dX8_power_1 : decode cX8_power 1 = .ok (.istore_n 2, 1) := by decide +kernel
theorem dX8_power_2 : decode cX8_power 2 = .ok (.iconst 0, 1) := by decide +kernel
theorem dX8_power_3 : decode cX8_power 3 = .ok (.istore_n 3, 1) := by decide +kernel
theorem dX8_power_4 : decode cX8_power 4 = .ok (.iload_n 3, 1) := by decide +kernel
theorem dX8_power_5 : decode cX8_power 5 = .ok (.iload_n 1, 1) := by decide +kernel
theorem dX8_power_6 : decode cX8_power 6 = .ok (.if_icmp .ge 13, 3) := by decide +kernel
theorem dX8_power_9 : decode cX8_power 9 = .ok (.iload_n 2, 1) := by decide +kernel
theorem dX8_power_10 : decode cX8_power 10 = .ok (.iload_n 0, 1) := by decide +kernel
theorem dX8_power_11 : decode cX8_power 11 = .ok (.imul, 1) := by decide +kernel
theorem dX8_power_12 : decode cX8_power 12 = .ok (.istore_n 2, 1) := by decide +kernel
theorem dX8_power_13 : decode cX8_power 13 = .ok (.iinc 3 1, 3) := by decide +kernel
theorem dX8_power_16 : decode cX8_power 16 = .ok (.goto (-12), 3) := by decide +kernel
theorem dX8_power_19 : decode cX8_power 19 = .ok (.iload_n 2, 1) := by decide +kernel
theorem dX8_power_20 : decode cX8_power 20 = .ok (.ireturn, 1) := by decide +kernel
theorem dX8_layFirst_0 : decode cX8_layFirst 0 = .ok (.iconst 0, 1) := by decide +kernel
theorem dX8_layFirst_1 : decode cX8_layFirst 1 = .ok (.istore_n 1, 1) := by decide +kernel
theorem dX8_layFirst_2 : decode cX8_layFirst 2 = .ok (.iload_n 1, 1) := by decide +kernel
theorem dX8_layFirst_3 : decode cX8_layFirst 3 = .ok (.bipush 39, 2) := by decide +kernel
theorem dX8_layFirst_5 : decode cX8_layFirst 5 = .ok (.if_icmp .ge 13, 3) := by decide +kernel
theorem dX8_layFirst_8 : decode cX8_layFirst 8 = .ok (.aload_n 0, 1) := by decide +kernel
theorem dX8_layFirst_9 : decode cX8_layFirst 9 = .ok (.iload_n 1, 1) := by decide +kernel
theorem dX8_layFirst_10 : decode cX8_layFirst 10 = .ok (.iconst 0, 1) := by decide +kernel
theorem dX8_layFirst_11 : decode cX8_layFirst 11 = .ok (.iastore, 1) := by decide +kernel
theorem dX8_layFirst_12 : decode cX8_layFirst 12 = .ok (.iinc 1 1, 3) := by decide +kernel
theorem dX8_layFirst_15 : decode cX8_layFirst 15 = .ok (.goto (-13), 3) := by decide +kernel
theorem dX8_layFirst_18 : decode cX8_layFirst 18 = .ok (.aload_n 0, 1) := by decide +kernel
theorem dX8_layFirst_19 : decode cX8_layFirst 19 = .ok (.bipush 9, 2) := by decide +kernel
theorem dX8_layFirst_21 : decode cX8_layFirst 21 = .ok (.iconst 1, 1) := by decide +kernel
theorem dX8_layFirst_22 : decode cX8_layFirst 22 = .ok (.iastore, 1) := by decide +kernel
theorem dX8_layFirst_23 : decode cX8_layFirst 23 = .ok (.aload_n 0, 1) := by decide +kernel
theorem dX8_layFirst_24 : decode cX8_layFirst 24 = .ok (.bipush 10, 2) := by decide +kernel
theorem dX8_layFirst_26 : decode cX8_layFirst 26 = .ok (.iconst 2, 1) := by decide +kernel
theorem dX8_layFirst_27 : decode cX8_layFirst 27 = .ok (.iastore, 1) := by decide +kernel
theorem dX8_layFirst_28 : decode cX8_layFirst 28 = .ok (.iconst 0, 1) := by decide +kernel
theorem dX8_layFirst_29 : decode cX8_layFirst 29 = .ok (.istore_n 1, 1) := by decide +kernel
theorem dX8_layFirst_30 : decode cX8_layFirst 30 = .ok (.iload_n 1, 1) := by decide +kernel
theorem dX8_layFirst_31 : decode cX8_layFirst 31 = .ok (.iconst 2, 1) := by decide +kernel
theorem dX8_layFirst_32 : decode cX8_layFirst 32 = .ok (.if_icmp .ge 34, 3) := by decide +kernel
theorem dX8_layFirst_35 : decode cX8_layFirst 35 = .ok (.iconst 0, 1) := by decide +kernel
theorem dX8_layFirst_36 : decode cX8_layFirst 36 = .ok (.istore_n 2, 1) := by decide +kernel
theorem dX8_layFirst_37 : decode cX8_layFirst 37 = .ok (.iload_n 2, 1) := by decide +kernel
theorem dX8_layFirst_38 : decode cX8_layFirst 38 = .ok (.iconst 4, 1) := by decide +kernel
theorem dX8_layFirst_39 : decode cX8_layFirst 39 = .ok (.if_icmp .ge 21, 3) := by decide +kernel
theorem dX8_layFirst_42 : decode cX8_layFirst 42 = .ok (.aload_n 0, 1) := by decide +kernel
theorem dX8_layFirst_43 : decode cX8_layFirst 43 = .ok (.bipush 11, 2) := by decide +kernel
theorem dX8_layFirst_45 : decode cX8_layFirst 45 = .ok (.bipush 14, 2) := by decide +kernel
theorem dX8_layFirst_47 : decode cX8_layFirst 47 = .ok (.iload_n 1, 1) := by decide +kernel
theorem dX8_layFirst_48 : decode cX8_layFirst 48 = .ok (.imul, 1) := by decide +kernel
theorem dX8_layFirst_49 : decode cX8_layFirst 49 = .ok (.iadd, 1) := by decide +kernel
theorem dX8_layFirst_50 : decode cX8_layFirst 50 = .ok (.iload_n 2, 1) := by decide +kernel
theorem dX8_layFirst_51 : decode cX8_layFirst 51 = .ok (.iadd, 1) := by decide +kernel
theorem dX8_layFirst_52 : decode cX8_layFirst 52 = .ok (.iconst 1, 1) := by decide +kernel
theorem dX8_layFirst_53 : decode cX8_layFirst 53 = .ok (.iastore, 1) := by decide +kernel
theorem dX8_layFirst_54 : decode cX8_layFirst 54 = .ok (.iinc 2 1, 3) := by decide +kernel
theorem dX8_layFirst_57 : decode cX8_layFirst 57 = .ok (.goto (-20), 3) := by decide +kernel
theorem dX8_layFirst_60 : decode cX8_layFirst 60 = .ok (.iinc 1 1, 3) := by decide +kernel
theorem dX8_layFirst_63 : decode cX8_layFirst 63 = .ok (.goto (-33), 3) := by decide +kernel
theorem dX8_layFirst_66 : decode cX8_layFirst 66 = .ok (.return_, 1) := by decide +kernel
theorem dX8_lay_0 : decode cX8_lay 0 = .ok (.iconst 0, 1) := by decide +kernel
theorem dX8_lay_1 : decode cX8_lay 1 = .ok (.istore_n 2, 1) := by decide +kernel
theorem dX8_lay_2 : decode cX8_lay 2 = .ok (.iload_n 2, 1) := by decide +kernel
theorem dX8_lay_3 : decode cX8_lay 3 = .ok (.bipush 39, 2) := by decide +kernel
theorem dX8_lay_5 : decode cX8_lay 5 = .ok (.if_icmp .ge 15, 3) := by decide +kernel
theorem dX8_lay_8 : decode cX8_lay 8 = .ok (.aload_n 1, 1) := by decide +kernel
theorem dX8_lay_9 : decode cX8_lay 9 = .ok (.iload_n 2, 1) := by decide +kernel
theorem dX8_lay_10 : decode cX8_lay 10 = .ok (.aload_n 0, 1) := by decide +kernel
theorem dX8_lay_11 : decode cX8_lay 11 = .ok (.iload_n 2, 1) := by decide +kernel
theorem dX8_lay_12 : decode cX8_lay 12 = .ok (.iaload, 1) := by decide +kernel
theorem dX8_lay_13 : decode cX8_lay 13 = .ok (.iastore, 1) := by decide +kernel
theorem dX8_lay_14 : decode cX8_lay 14 = .ok (.iinc 2 1, 3) := by decide +kernel
theorem dX8_lay_17 : decode cX8_lay 17 = .ok (.goto (-15), 3) := by decide +kernel
theorem dX8_lay_20 : decode cX8_lay 20 = .ok (.return_, 1) := by decide +kernel
theorem dX8_at_0 : decode cX8_at 0 = .ok (.bipush 11, 2) := by decide +kernel
theorem dX8_at_2 : decode cX8_at 2 = .ok (.bipush 14, 2) := by decide +kernel
theorem dX8_at_4 : decode cX8_at 4 = .ok (.iload_n 0, 1) := by decide +kernel
theorem dX8_at_5 : decode cX8_at 5 = .ok (.imul, 1) := by decide +kernel
theorem dX8_at_6 : decode cX8_at 6 = .ok (.iadd, 1) := by decide +kernel
theorem dX8_at_7 : decode cX8_at 7 = .ok (.ireturn, 1) := by decide +kernel
theorem dX8_noEnd_0 : decode cX8_noEnd 0 = .ok (.iload_n 0, 1) := by decide +kernel
theorem dX8_noEnd_1 : decode cX8_noEnd 1 = .ok (.i2l, 1) := by decide +kernel
theorem dX8_noEnd_2 : decode cX8_noEnd 2 = .ok (.lconst 0, 1) := by decide +kernel
theorem dX8_noEnd_3 : decode cX8_noEnd 3 = .ok (.lconst 1, 1) := by decide +kernel
theorem dX8_noEnd_4 : decode cX8_noEnd 4 = .ok (.invokestatic 61, 3) := by decide +kernel
theorem dX8_noEnd_7 : decode cX8_noEnd 7 = .ok (.ifCond .ne 7, 3) := by decide +kernel
theorem dX8_noEnd_10 : decode cX8_noEnd 10 = .ok (.iconst 1, 1) := by decide +kernel
theorem dX8_noEnd_11 : decode cX8_noEnd 11 = .ok (.goto 4, 3) := by decide +kernel
theorem dX8_noEnd_14 : decode cX8_noEnd 14 = .ok (.iconst 0, 1) := by decide +kernel
theorem dX8_noEnd_15 : decode cX8_noEnd 15 = .ok (.ireturn, 1) := by decide +kernel
theorem dX8_isFull_0 : decode cX8_isFull 0 = .ok (.aload_n 0, 1) := by decide +kernel
theorem dX8_isFull_1 : decode cX8_isFull 1 = .ok (.iload_n 1, 1) := by decide +kernel
theorem dX8_isFull_2 : decode cX8_isFull 2 = .ok (.invokestatic 65, 3) := by decide +kernel
theorem dX8_isFull_5 : decode cX8_isFull 5 = .ok (.iconst 4, 1) := by decide +kernel
theorem dX8_isFull_6 : decode cX8_isFull 6 = .ok (.iadd, 1) := by decide +kernel
theorem dX8_isFull_7 : decode cX8_isFull 7 = .ok (.iaload, 1) := by decide +kernel
theorem dX8_isFull_8 : decode cX8_isFull 8 = .ok (.bipush 9, 2) := by decide +kernel
theorem dX8_isFull_10 : decode cX8_isFull 10 = .ok (.if_icmp .ne 7, 3) := by decide +kernel
theorem dX8_isFull_13 : decode cX8_isFull 13 = .ok (.iconst 1, 1) := by decide +kernel
theorem dX8_isFull_14 : decode cX8_isFull 14 = .ok (.goto 4, 3) := by decide +kernel
theorem dX8_isFull_17 : decode cX8_isFull 17 = .ok (.iconst 0, 1) := by decide +kernel
theorem dX8_isFull_18 : decode cX8_isFull 18 = .ok (.ireturn, 1) := by decide +kernel
theorem dX8_comeOn_0 : decode cX8_comeOn 0 = .ok (.iload_n 1, 1) := by decide +kernel
theorem dX8_comeOn_1 : decode cX8_comeOn 1 = .ok (.invokestatic 65, 3) := by decide +kernel
theorem dX8_comeOn_4 : decode cX8_comeOn 4 = .ok (.istore_n 3, 1) := by decide +kernel
theorem dX8_comeOn_5 : decode cX8_comeOn 5 = .ok (.aload_n 0, 1) := by decide +kernel
theorem dX8_comeOn_6 : decode cX8_comeOn 6 = .ok (.iload_n 3, 1) := by decide +kernel
theorem dX8_comeOn_7 : decode cX8_comeOn 7 = .ok (.iconst 5, 1) := by decide +kernel
theorem dX8_comeOn_8 : decode cX8_comeOn 8 = .ok (.iadd, 1) := by decide +kernel
theorem dX8_comeOn_9 : decode cX8_comeOn 9 = .ok (.aload_n 0, 1) := by decide +kernel
theorem dX8_comeOn_10 : decode cX8_comeOn 10 = .ok (.iload_n 3, 1) := by decide +kernel
theorem dX8_comeOn_11 : decode cX8_comeOn 11 = .ok (.iconst 4, 1) := by decide +kernel
theorem dX8_comeOn_12 : decode cX8_comeOn 12 = .ok (.iadd, 1) := by decide +kernel
theorem dX8_comeOn_13 : decode cX8_comeOn 13 = .ok (.iaload, 1) := by decide +kernel
theorem dX8_comeOn_14 : decode cX8_comeOn 14 = .ok (.iadd, 1) := by decide +kernel
theorem dX8_comeOn_15 : decode cX8_comeOn 15 = .ok (.bipush 10, 2) := by decide +kernel
theorem dX8_comeOn_17 : decode cX8_comeOn 17 = .ok (.aload_n 0, 1) := by decide +kernel
theorem dX8_comeOn_18 : decode cX8_comeOn 18 = .ok (.iconst 3, 1) := by decide +kernel
theorem dX8_comeOn_19 : decode cX8_comeOn 19 = .ok (.iaload, 1) := by decide +kernel
theorem dX8_comeOn_20 : decode cX8_comeOn 20 = .ok (.imul, 1) := by decide +kernel
theorem dX8_comeOn_21 : decode cX8_comeOn 21 = .ok (.iload_n 2, 1) := by decide +kernel
theorem dX8_comeOn_22 : decode cX8_comeOn 22 = .ok (.iadd, 1) := by decide +kernel
theorem dX8_comeOn_23 : decode cX8_comeOn 23 = .ok (.iastore, 1) := by decide +kernel
theorem dX8_comeOn_24 : decode cX8_comeOn 24 = .ok (.aload_n 0, 1) := by decide +kernel
theorem dX8_comeOn_25 : decode cX8_comeOn 25 = .ok (.iload_n 3, 1) := by decide +kernel
theorem dX8_comeOn_26 : decode cX8_comeOn 26 = .ok (.iconst 4, 1) := by decide +kernel
theorem dX8_comeOn_27 : decode cX8_comeOn 27 = .ok (.iadd, 1) := by decide +kernel
theorem dX8_comeOn_28 : decode cX8_comeOn 28 = .ok (.dup2, 1) := by decide +kernel
theorem dX8_comeOn_29 : decode cX8_comeOn 29 = .ok (.iaload, 1) := by decide +kernel
theorem dX8_comeOn_30 : decode cX8_comeOn 30 = .ok (.iconst 1, 1) := by decide +kernel
theorem dX8_comeOn_31 : decode cX8_comeOn 31 = .ok (.iadd, 1) := by decide +kernel
theorem dX8_comeOn_32 : decode cX8_comeOn 32 = .ok (.iastore, 1) := by decide +kernel
theorem dX8_comeOn_33 : decode cX8_comeOn 33 = .ok (.return_, 1) := by decide +kernel
theorem dX8_isDue_0 : decode cX8_isDue 0 = .ok (.iload_n 2, 1) := by decide +kernel
theorem dX8_isDue_1 : decode cX8_isDue 1 = .ok (.invokestatic 65, 3) := by decide +kernel
theorem dX8_isDue_4 : decode cX8_isDue 4 = .ok (.istore_n 3, 1) := by decide +kernel
theorem dX8_isDue_5 : decode cX8_isDue 5 = .ok (.aload_n 1, 1) := by decide +kernel
theorem dX8_isDue_6 : decode cX8_isDue 6 = .ok (.iload_n 3, 1) := by decide +kernel
theorem dX8_isDue_7 : decode cX8_isDue 7 = .ok (.iconst 4, 1) := by decide +kernel
theorem dX8_isDue_8 : decode cX8_isDue 8 = .ok (.iadd, 1) := by decide +kernel
theorem dX8_isDue_9 : decode cX8_isDue 9 = .ok (.iaload, 1) := by decide +kernel
theorem dX8_isDue_10 : decode cX8_isDue 10 = .ok (.aload_n 1, 1) := by decide +kernel
theorem dX8_isDue_11 : decode cX8_isDue 11 = .ok (.iload_n 3, 1) := by decide +kernel
theorem dX8_isDue_12 : decode cX8_isDue 12 = .ok (.iconst 1, 1) := by decide +kernel
theorem dX8_isDue_13 : decode cX8_isDue 13 = .ok (.iadd, 1) := by decide +kernel
theorem dX8_isDue_14 : decode cX8_isDue 14 = .ok (.iaload, 1) := by decide +kernel
theorem dX8_isDue_15 : decode cX8_isDue 15 = .ok (.if_icmp .lt 7, 3) := by decide +kernel
theorem dX8_isDue_18 : decode cX8_isDue 18 = .ok (.iconst 1, 1) := by decide +kernel
theorem dX8_isDue_19 : decode cX8_isDue 19 = .ok (.goto 4, 3) := by decide +kernel
theorem dX8_isDue_22 : decode cX8_isDue 22 = .ok (.iconst 0, 1) := by decide +kernel
theorem dX8_isDue_23 : decode cX8_isDue 23 = .ok (.istore 4, 2) := by decide +kernel
theorem dX8_isDue_25 : decode cX8_isDue 25 = .ok (.iconst 0, 1) := by decide +kernel
theorem dX8_isDue_26 : decode cX8_isDue 26 = .ok (.istore 5, 2) := by decide +kernel
theorem dX8_isDue_28 : decode cX8_isDue 28 = .ok (.iload 5, 2) := by decide +kernel
theorem dX8_isDue_30 : decode cX8_isDue 30 = .ok (.aload_n 1, 1) := by decide +kernel
theorem dX8_isDue_31 : decode cX8_isDue 31 = .ok (.iload_n 3, 1) := by decide +kernel
theorem dX8_isDue_32 : decode cX8_isDue 32 = .ok (.iconst 4, 1) := by decide +kernel
theorem dX8_isDue_33 : decode cX8_isDue 33 = .ok (.iadd, 1) := by decide +kernel
theorem dX8_isDue_34 : decode cX8_isDue 34 = .ok (.iaload, 1) := by decide +kernel
theorem dX8_isDue_35 : decode cX8_isDue 35 = .ok (.if_icmp .ge 67, 3) := by decide +kernel
theorem dX8_isDue_38 : decode cX8_isDue 38 = .ok (.aload_n 1, 1) := by decide +kernel
theorem dX8_isDue_39 : decode cX8_isDue 39 = .ok (.iload_n 3, 1) := by decide +kernel
theorem dX8_isDue_40 : decode cX8_isDue 40 = .ok (.iconst 5, 1) := by decide +kernel
theorem dX8_isDue_41 : decode cX8_isDue 41 = .ok (.iadd, 1) := by decide +kernel
theorem dX8_isDue_42 : decode cX8_isDue 42 = .ok (.iload 5, 2) := by decide +kernel
theorem dX8_isDue_44 : decode cX8_isDue 44 = .ok (.iadd, 1) := by decide +kernel
theorem dX8_isDue_45 : decode cX8_isDue 45 = .ok (.iaload, 1) := by decide +kernel
theorem dX8_isDue_46 : decode cX8_isDue 46 = .ok (.istore 6, 2) := by decide +kernel
theorem dX8_isDue_48 : decode cX8_isDue 48 = .ok (.iload 4, 2) := by decide +kernel
theorem dX8_isDue_50 : decode cX8_isDue 50 = .ok (.ifCond .ne 39, 3) := by decide +kernel
theorem dX8_isDue_53 : decode cX8_isDue 53 = .ok (.iload 6, 2) := by decide +kernel
theorem dX8_isDue_55 : decode cX8_isDue 55 = .ok (.bipush 10, 2) := by decide +kernel
theorem dX8_isDue_57 : decode cX8_isDue 57 = .ok (.irem, 1) := by decide +kernel
theorem dX8_isDue_58 : decode cX8_isDue 58 = .ok (.ifCond .gt 31, 3) := by decide +kernel
theorem dX8_isDue_61 : decode cX8_isDue 61 = .ok (.aload_n 1, 1) := by decide +kernel
theorem dX8_isDue_62 : decode cX8_isDue 62 = .ok (.iconst 3, 1) := by decide +kernel
theorem dX8_isDue_63 : decode cX8_isDue 63 = .ok (.iaload, 1) := by decide +kernel
theorem dX8_isDue_64 : decode cX8_isDue 64 = .ok (.iload 6, 2) := by decide +kernel
theorem dX8_isDue_66 : decode cX8_isDue 66 = .ok (.bipush 10, 2) := by decide +kernel
theorem dX8_isDue_68 : decode cX8_isDue 68 = .ok (.idiv, 1) := by decide +kernel
theorem dX8_isDue_69 : decode cX8_isDue 69 = .ok (.isub, 1) := by decide +kernel
theorem dX8_isDue_70 : decode cX8_isDue 70 = .ok (.aload_n 1, 1) := by decide +kernel
theorem dX8_isDue_71 : decode cX8_isDue 71 = .ok (.iload_n 3, 1) := by decide +kernel
theorem dX8_isDue_72 : decode cX8_isDue 72 = .ok (.iconst 2, 1) := by decide +kernel
theorem dX8_isDue_73 : decode cX8_isDue 73 = .ok (.iadd, 1) := by decide +kernel
theorem dX8_isDue_74 : decode cX8_isDue 74 = .ok (.iaload, 1) := by decide +kernel
theorem dX8_isDue_75 : decode cX8_isDue 75 = .ok (.if_icmp .ge 14, 3) := by decide +kernel
theorem dX8_isDue_78 : decode cX8_isDue 78 = .ok (.aload_n 0, 1) := by decide +kernel
theorem dX8_isDue_79 : decode cX8_isDue 79 = .ok (.getfield 50, 3) := by decide +kernel
theorem dX8_isDue_82 : decode cX8_isDue 82 = .ok (.iload_n 2, 1) := by decide +kernel
theorem dX8_isDue_83 : decode cX8_isDue 83 = .ok (.invokestatic 69, 3) := by decide +kernel
theorem dX8_isDue_86 : decode cX8_isDue 86 = .ok (.ifCond .ne 7, 3) := by decide +kernel
theorem dX8_isDue_89 : decode cX8_isDue 89 = .ok (.iconst 1, 1) := by decide +kernel
theorem dX8_isDue_90 : decode cX8_isDue 90 = .ok (.goto 4, 3) := by decide +kernel
theorem dX8_isDue_93 : decode cX8_isDue 93 = .ok (.iconst 0, 1) := by decide +kernel
theorem dX8_isDue_94 : decode cX8_isDue 94 = .ok (.istore 4, 2) := by decide +kernel
theorem dX8_isDue_96 : decode cX8_isDue 96 = .ok (.iinc 5 1, 3) := by decide +kernel
theorem dX8_isDue_99 : decode cX8_isDue 99 = .ok (.goto (-71), 3) := by decide +kernel
theorem dX8_isDue_102 : decode cX8_isDue 102 = .ok (.iload 4, 2) := by decide +kernel
theorem dX8_isDue_104 : decode cX8_isDue 104 = .ok (.ireturn, 1) := by decide +kernel
theorem dX8_wakeTime_0 : decode cX8_wakeTime 0 = .ok (.iconst 0, 1) := by decide +kernel
theorem dX8_wakeTime_1 : decode cX8_wakeTime 1 = .ok (.istore_n 1, 1) := by decide +kernel
theorem dX8_wakeTime_2 : decode cX8_wakeTime 2 = .ok (.iconst 0, 1) := by decide +kernel
theorem dX8_wakeTime_3 : decode cX8_wakeTime 3 = .ok (.istore_n 2, 1) := by decide +kernel
theorem dX8_wakeTime_4 : decode cX8_wakeTime 4 = .ok (.iload_n 2, 1) := by decide +kernel
theorem dX8_wakeTime_5 : decode cX8_wakeTime 5 = .ok (.iconst 2, 1) := by decide +kernel
theorem dX8_wakeTime_6 : decode cX8_wakeTime 6 = .ok (.if_icmp .ge 55, 3) := by decide +kernel
theorem dX8_wakeTime_9 : decode cX8_wakeTime 9 = .ok (.aload_n 0, 1) := by decide +kernel
theorem dX8_wakeTime_10 : decode cX8_wakeTime 10 = .ok (.iload_n 2, 1) := by decide +kernel
theorem dX8_wakeTime_11 : decode cX8_wakeTime 11 = .ok (.invokestatic 65, 3) := by decide +kernel
theorem dX8_wakeTime_14 : decode cX8_wakeTime 14 = .ok (.iaload, 1) := by decide +kernel
theorem dX8_wakeTime_15 : decode cX8_wakeTime 15 = .ok (.iload_n 1, 1) := by decide +kernel
theorem dX8_wakeTime_16 : decode cX8_wakeTime 16 = .ok (.if_icmp .le 12, 3) := by decide +kernel
theorem dX8_wakeTime_19 : decode cX8_wakeTime 19 = .ok (.aload_n 0, 1) := by decide +kernel
theorem dX8_wakeTime_20 : decode cX8_wakeTime 20 = .ok (.iload_n 2, 1) := by decide +kernel
theorem dX8_wakeTime_21 : decode cX8_wakeTime 21 = .ok (.invokestatic 65, 3) := by decide +kernel
theorem dX8_wakeTime_24 : decode cX8_wakeTime 24 = .ok (.iaload, 1) := by decide +kernel
theorem dX8_wakeTime_25 : decode cX8_wakeTime 25 = .ok (.goto 4, 3) := by decide +kernel
theorem dX8_wakeTime_28 : decode cX8_wakeTime 28 = .ok (.iload_n 1, 1) := by decide +kernel
theorem dX8_wakeTime_29 : decode cX8_wakeTime 29 = .ok (.istore_n 1, 1) := by decide +kernel
theorem dX8_wakeTime_30 : decode cX8_wakeTime 30 = .ok (.aload_n 0, 1) := by decide +kernel
theorem dX8_wakeTime_31 : decode cX8_wakeTime 31 = .ok (.iload_n 2, 1) := by decide +kernel
theorem dX8_wakeTime_32 : decode cX8_wakeTime 32 = .ok (.invokestatic 65, 3) := by decide +kernel
theorem dX8_wakeTime_35 : decode cX8_wakeTime 35 = .ok (.iconst 3, 1) := by decide +kernel
theorem dX8_wakeTime_36 : decode cX8_wakeTime 36 = .ok (.iadd, 1) := by decide +kernel
theorem dX8_wakeTime_37 : decode cX8_wakeTime 37 = .ok (.iaload, 1) := by decide +kernel
theorem dX8_wakeTime_38 : decode cX8_wakeTime 38 = .ok (.iload_n 1, 1) := by decide +kernel
theorem dX8_wakeTime_39 : decode cX8_wakeTime 39 = .ok (.if_icmp .le 14, 3) := by decide +kernel
theorem dX8_wakeTime_42 : decode cX8_wakeTime 42 = .ok (.aload_n 0, 1) := by decide +kernel
theorem dX8_wakeTime_43 : decode cX8_wakeTime 43 = .ok (.iload_n 2, 1) := by decide +kernel
theorem dX8_wakeTime_44 : decode cX8_wakeTime 44 = .ok (.invokestatic 65, 3) := by decide +kernel
theorem dX8_wakeTime_47 : decode cX8_wakeTime 47 = .ok (.iconst 3, 1) := by decide +kernel
theorem dX8_wakeTime_48 : decode cX8_wakeTime 48 = .ok (.iadd, 1) := by decide +kernel
theorem dX8_wakeTime_49 : decode cX8_wakeTime 49 = .ok (.iaload, 1) := by decide +kernel
theorem dX8_wakeTime_50 : decode cX8_wakeTime 50 = .ok (.goto 4, 3) := by decide +kernel
theorem dX8_wakeTime_53 : decode cX8_wakeTime 53 = .ok (.iload_n 1, 1) := by decide +kernel
theorem dX8_wakeTime_54 : decode cX8_wakeTime 54 = .ok (.istore_n 1, 1) := by decide +kernel
theorem dX8_wakeTime_55 : decode cX8_wakeTime 55 = .ok (.iinc 2 1, 3) := by decide +kernel
theorem dX8_wakeTime_58 : decode cX8_wakeTime 58 = .ok (.goto (-54), 3) := by decide +kernel
theorem dX8_wakeTime_61 : decode cX8_wakeTime 61 = .ok (.iload_n 1, 1) := by decide +kernel
theorem dX8_wakeTime_62 : decode cX8_wakeTime 62 = .ok (.ireturn, 1) := by decide +kernel
theorem dX8_isEmpty_0 : decode cX8_isEmpty 0 = .ok (.aload_n 0, 1) := by decide +kernel
theorem dX8_isEmpty_1 : decode cX8_isEmpty 1 = .ok (.iconst 0, 1) := by decide +kernel
theorem dX8_isEmpty_2 : decode cX8_isEmpty 2 = .ok (.invokestatic 65, 3) := by decide +kernel
theorem dX8_isEmpty_5 : decode cX8_isEmpty 5 = .ok (.iconst 4, 1) := by decide +kernel
theorem dX8_isEmpty_6 : decode cX8_isEmpty 6 = .ok (.iadd, 1) := by decide +kernel
theorem dX8_isEmpty_7 : decode cX8_isEmpty 7 = .ok (.iaload, 1) := by decide +kernel
theorem dX8_isEmpty_8 : decode cX8_isEmpty 8 = .ok (.ifCond .ne 18, 3) := by decide +kernel
theorem dX8_isEmpty_11 : decode cX8_isEmpty 11 = .ok (.aload_n 0, 1) := by decide +kernel
theorem dX8_isEmpty_12 : decode cX8_isEmpty 12 = .ok (.iconst 1, 1) := by decide +kernel
theorem dX8_isEmpty_13 : decode cX8_isEmpty 13 = .ok (.invokestatic 65, 3) := by decide +kernel
theorem dX8_isEmpty_16 : decode cX8_isEmpty 16 = .ok (.iconst 4, 1) := by decide +kernel
theorem dX8_isEmpty_17 : decode cX8_isEmpty 17 = .ok (.iadd, 1) := by decide +kernel
theorem dX8_isEmpty_18 : decode cX8_isEmpty 18 = .ok (.iaload, 1) := by decide +kernel
theorem dX8_isEmpty_19 : decode cX8_isEmpty 19 = .ok (.ifCond .ne 7, 3) := by decide +kernel
theorem dX8_isEmpty_22 : decode cX8_isEmpty 22 = .ok (.iconst 1, 1) := by decide +kernel
theorem dX8_isEmpty_23 : decode cX8_isEmpty 23 = .ok (.goto 4, 3) := by decide +kernel
theorem dX8_isEmpty_26 : decode cX8_isEmpty 26 = .ok (.iconst 0, 1) := by decide +kernel
theorem dX8_isEmpty_27 : decode cX8_isEmpty 27 = .ok (.ireturn, 1) := by decide +kernel
theorem dX8_sendOn_0 : decode cX8_sendOn 0 = .ok (.iload_n 1, 1) := by decide +kernel
theorem dX8_sendOn_1 : decode cX8_sendOn 1 = .ok (.invokestatic 65, 3) := by decide +kernel
theorem dX8_sendOn_4 : decode cX8_sendOn 4 = .ok (.istore_n 2, 1) := by decide +kernel
theorem dX8_sendOn_5 : decode cX8_sendOn 5 = .ok (.aload_n 0, 1) := by decide +kernel
theorem dX8_sendOn_6 : decode cX8_sendOn 6 = .ok (.iload_n 2, 1) := by decide +kernel
theorem dX8_sendOn_7 : decode cX8_sendOn 7 = .ok (.iconst 4, 1) := by decide +kernel
theorem dX8_sendOn_8 : decode cX8_sendOn 8 = .ok (.iadd, 1) := by decide +kernel
theorem dX8_sendOn_9 : decode cX8_sendOn 9 = .ok (.iaload, 1) := by decide +kernel
theorem dX8_sendOn_10 : decode cX8_sendOn 10 = .ok (.ifCond .le 139, 3) := by decide +kernel
theorem dX8_sendOn_13 : decode cX8_sendOn 13 = .ok (.aload_n 0, 1) := by decide +kernel
theorem dX8_sendOn_14 : decode cX8_sendOn 14 = .ok (.iload_n 2, 1) := by decide +kernel
theorem dX8_sendOn_15 : decode cX8_sendOn 15 = .ok (.iconst 5, 1) := by decide +kernel
theorem dX8_sendOn_16 : decode cX8_sendOn 16 = .ok (.iadd, 1) := by decide +kernel
theorem dX8_sendOn_17 : decode cX8_sendOn 17 = .ok (.iaload, 1) := by decide +kernel
theorem dX8_sendOn_18 : decode cX8_sendOn 18 = .ok (.istore_n 3, 1) := by decide +kernel
theorem dX8_sendOn_19 : decode cX8_sendOn 19 = .ok (.iconst 0, 1) := by decide +kernel
theorem dX8_sendOn_20 : decode cX8_sendOn 20 = .ok (.istore 4, 2) := by decide +kernel
theorem dX8_sendOn_22 : decode cX8_sendOn 22 = .ok (.iload 4, 2) := by decide +kernel
theorem dX8_sendOn_24 : decode cX8_sendOn 24 = .ok (.iconst 1, 1) := by decide +kernel
theorem dX8_sendOn_25 : decode cX8_sendOn 25 = .ok (.iadd, 1) := by decide +kernel
theorem dX8_sendOn_26 : decode cX8_sendOn 26 = .ok (.aload_n 0, 1) := by decide +kernel
theorem dX8_sendOn_27 : decode cX8_sendOn 27 = .ok (.iload_n 2, 1) := by decide +kernel
theorem dX8_sendOn_28 : decode cX8_sendOn 28 = .ok (.iconst 4, 1) := by decide +kernel
theorem dX8_sendOn_29 : decode cX8_sendOn 29 = .ok (.iadd, 1) := by decide +kernel
theorem dX8_sendOn_30 : decode cX8_sendOn 30 = .ok (.iaload, 1) := by decide +kernel
theorem dX8_sendOn_31 : decode cX8_sendOn 31 = .ok (.if_icmp .ge 27, 3) := by decide +kernel
theorem dX8_sendOn_34 : decode cX8_sendOn 34 = .ok (.aload_n 0, 1) := by decide +kernel
theorem dX8_sendOn_35 : decode cX8_sendOn 35 = .ok (.iload_n 2, 1) := by decide +kernel
theorem dX8_sendOn_36 : decode cX8_sendOn 36 = .ok (.iconst 5, 1) := by decide +kernel
theorem dX8_sendOn_37 : decode cX8_sendOn 37 = .ok (.iadd, 1) := by decide +kernel
theorem dX8_sendOn_38 : decode cX8_sendOn 38 = .ok (.iload 4, 2) := by decide +kernel
theorem dX8_sendOn_40 : decode cX8_sendOn 40 = .ok (.iadd, 1) := by decide +kernel
theorem dX8_sendOn_41 : decode cX8_sendOn 41 = .ok (.aload_n 0, 1) := by decide +kernel
theorem dX8_sendOn_42 : decode cX8_sendOn 42 = .ok (.iload_n 2, 1) := by decide +kernel
theorem dX8_sendOn_43 : decode cX8_sendOn 43 = .ok (.iconst 5, 1) := by decide +kernel
theorem dX8_sendOn_44 : decode cX8_sendOn 44 = .ok (.iadd, 1) := by decide +kernel
theorem dX8_sendOn_45 : decode cX8_sendOn 45 = .ok (.iload 4, 2) := by decide +kernel
theorem dX8_sendOn_47 : decode cX8_sendOn 47 = .ok (.iadd, 1) := by decide +kernel
theorem dX8_sendOn_48 : decode cX8_sendOn 48 = .ok (.iconst 1, 1) := by decide +kernel
theorem dX8_sendOn_49 : decode cX8_sendOn 49 = .ok (.iadd, 1) := by decide +kernel
theorem dX8_sendOn_50 : decode cX8_sendOn 50 = .ok (.iaload, 1) := by decide +kernel
theorem dX8_sendOn_51 : decode cX8_sendOn 51 = .ok (.iastore, 1) := by decide +kernel
theorem dX8_sendOn_52 : decode cX8_sendOn 52 = .ok (.iinc 4 1, 3) := by decide +kernel
theorem dX8_sendOn_55 : decode cX8_sendOn 55 = .ok (.goto (-33), 3) := by decide +kernel
theorem dX8_sendOn_58 : decode cX8_sendOn 58 = .ok (.aload_n 0, 1) := by decide +kernel
theorem dX8_sendOn_59 : decode cX8_sendOn 59 = .ok (.iload_n 2, 1) := by decide +kernel
theorem dX8_sendOn_60 : decode cX8_sendOn 60 = .ok (.iconst 4, 1) := by decide +kernel
theorem dX8_sendOn_61 : decode cX8_sendOn 61 = .ok (.iadd, 1) := by decide +kernel
theorem dX8_sendOn_62 : decode cX8_sendOn 62 = .ok (.dup2, 1) := by decide +kernel
theorem dX8_sendOn_63 : decode cX8_sendOn 63 = .ok (.iaload, 1) := by decide +kernel
theorem dX8_sendOn_64 : decode cX8_sendOn 64 = .ok (.iconst 1, 1) := by decide +kernel
theorem dX8_sendOn_65 : decode cX8_sendOn 65 = .ok (.isub, 1) := by decide +kernel
theorem dX8_sendOn_66 : decode cX8_sendOn 66 = .ok (.iastore, 1) := by decide +kernel
theorem dX8_sendOn_67 : decode cX8_sendOn 67 = .ok (.aload_n 0, 1) := by decide +kernel
theorem dX8_sendOn_68 : decode cX8_sendOn 68 = .ok (.iconst 3, 1) := by decide +kernel
theorem dX8_sendOn_69 : decode cX8_sendOn 69 = .ok (.iaload, 1) := by decide +kernel
theorem dX8_sendOn_70 : decode cX8_sendOn 70 = .ok (.iload_n 3, 1) := by decide +kernel
theorem dX8_sendOn_71 : decode cX8_sendOn 71 = .ok (.bipush 10, 2) := by decide +kernel
theorem dX8_sendOn_73 : decode cX8_sendOn 73 = .ok (.idiv, 1) := by decide +kernel
theorem dX8_sendOn_74 : decode cX8_sendOn 74 = .ok (.isub, 1) := by decide +kernel
theorem dX8_sendOn_75 : decode cX8_sendOn 75 = .ok (.istore 4, 2) := by decide +kernel
theorem dX8_sendOn_77 : decode cX8_sendOn 77 = .ok (.aload_n 0, 1) := by decide +kernel
theorem dX8_sendOn_78 : decode cX8_sendOn 78 = .ok (.iconst 5, 1) := by decide +kernel
theorem dX8_sendOn_79 : decode cX8_sendOn 79 = .ok (.dup2, 1) := by decide +kernel
theorem dX8_sendOn_80 : decode cX8_sendOn 80 = .ok (.iaload, 1) := by decide +kernel
theorem dX8_sendOn_81 : decode cX8_sendOn 81 = .ok (.iconst 1, 1) := by decide +kernel
theorem dX8_sendOn_82 : decode cX8_sendOn 82 = .ok (.iadd, 1) := by decide +kernel
theorem dX8_sendOn_83 : decode cX8_sendOn 83 = .ok (.iastore, 1) := by decide +kernel
theorem dX8_sendOn_84 : decode cX8_sendOn 84 = .ok (.aload_n 0, 1) := by decide +kernel
theorem dX8_sendOn_85 : decode cX8_sendOn 85 = .ok (.bipush 6, 2) := by decide +kernel
theorem dX8_sendOn_87 : decode cX8_sendOn 87 = .ok (.dup2, 1) := by decide +kernel
theorem dX8_sendOn_88 : decode cX8_sendOn 88 = .ok (.iaload, 1) := by decide +kernel
theorem dX8_sendOn_89 : decode cX8_sendOn 89 = .ok (.iload 4, 2) := by decide +kernel
theorem dX8_sendOn_91 : decode cX8_sendOn 91 = .ok (.iadd, 1) := by decide +kernel
theorem dX8_sendOn_92 : decode cX8_sendOn 92 = .ok (.iastore, 1) := by decide +kernel
theorem dX8_sendOn_93 : decode cX8_sendOn 93 = .ok (.aload_n 0, 1) := by decide +kernel
theorem dX8_sendOn_94 : decode cX8_sendOn 94 = .ok (.bipush 7, 2) := by decide +kernel
theorem dX8_sendOn_96 : decode cX8_sendOn 96 = .ok (.iload 4, 2) := by decide +kernel
theorem dX8_sendOn_98 : decode cX8_sendOn 98 = .ok (.aload_n 0, 1) := by decide +kernel
theorem dX8_sendOn_99 : decode cX8_sendOn 99 = .ok (.bipush 7, 2) := by decide +kernel
theorem dX8_sendOn_101 : decode cX8_sendOn 101 = .ok (.iaload, 1) := by decide +kernel
theorem dX8_sendOn_102 : decode cX8_sendOn 102 = .ok (.if_icmp .le 8, 3) := by decide +kernel
theorem dX8_sendOn_105 : decode cX8_sendOn 105 = .ok (.iload 4, 2) := by decide +kernel
theorem dX8_sendOn_107 : decode cX8_sendOn 107 = .ok (.goto 7, 3) := by decide +kernel
theorem dX8_sendOn_110 : decode cX8_sendOn 110 = .ok (.aload_n 0, 1) := by decide +kernel
theorem dX8_sendOn_111 : decode cX8_sendOn 111 = .ok (.bipush 7, 2) := by decide +kernel
theorem dX8_sendOn_113 : decode cX8_sendOn 113 = .ok (.iaload, 1) := by decide +kernel
theorem dX8_sendOn_114 : decode cX8_sendOn 114 = .ok (.iastore, 1) := by decide +kernel
theorem dX8_sendOn_115 : decode cX8_sendOn 115 = .ok (.aload_n 0, 1) := by decide +kernel
theorem dX8_sendOn_116 : decode cX8_sendOn 116 = .ok (.iconst 1, 1) := by decide +kernel
theorem dX8_sendOn_117 : decode cX8_sendOn 117 = .ok (.iload_n 1, 1) := by decide +kernel
theorem dX8_sendOn_118 : decode cX8_sendOn 118 = .ok (.isub, 1) := by decide +kernel
theorem dX8_sendOn_119 : decode cX8_sendOn 119 = .ok (.invokestatic 65, 3) := by decide +kernel
theorem dX8_sendOn_122 : decode cX8_sendOn 122 = .ok (.iconst 3, 1) := by decide +kernel
theorem dX8_sendOn_123 : decode cX8_sendOn 123 = .ok (.iadd, 1) := by decide +kernel
theorem dX8_sendOn_124 : decode cX8_sendOn 124 = .ok (.iload_n 3, 1) := by decide +kernel
theorem dX8_sendOn_125 : decode cX8_sendOn 125 = .ok (.bipush 10, 2) := by decide +kernel
theorem dX8_sendOn_127 : decode cX8_sendOn 127 = .ok (.irem, 1) := by decide +kernel
theorem dX8_sendOn_128 : decode cX8_sendOn 128 = .ok (.ifCond .le 10, 3) := by decide +kernel
theorem dX8_sendOn_131 : decode cX8_sendOn 131 = .ok (.iload_n 3, 1) := by decide +kernel
theorem dX8_sendOn_132 : decode cX8_sendOn 132 = .ok (.bipush 10, 2) := by decide +kernel
theorem dX8_sendOn_134 : decode cX8_sendOn 134 = .ok (.irem, 1) := by decide +kernel
theorem dX8_sendOn_135 : decode cX8_sendOn 135 = .ok (.goto 13, 3) := by decide +kernel
theorem dX8_sendOn_138 : decode cX8_sendOn 138 = .ok (.aload_n 0, 1) := by decide +kernel
theorem dX8_sendOn_139 : decode cX8_sendOn 139 = .ok (.iconst 1, 1) := by decide +kernel
theorem dX8_sendOn_140 : decode cX8_sendOn 140 = .ok (.iload_n 1, 1) := by decide +kernel
theorem dX8_sendOn_141 : decode cX8_sendOn 141 = .ok (.isub, 1) := by decide +kernel
theorem dX8_sendOn_142 : decode cX8_sendOn 142 = .ok (.invokestatic 65, 3) := by decide +kernel
theorem dX8_sendOn_145 : decode cX8_sendOn 145 = .ok (.iconst 3, 1) := by decide +kernel
theorem dX8_sendOn_146 : decode cX8_sendOn 146 = .ok (.iadd, 1) := by decide +kernel
theorem dX8_sendOn_147 : decode cX8_sendOn 147 = .ok (.iaload, 1) := by decide +kernel
theorem dX8_sendOn_148 : decode cX8_sendOn 148 = .ok (.iastore, 1) := by decide +kernel
theorem dX8_sendOn_149 : decode cX8_sendOn 149 = .ok (.return_, 1) := by decide +kernel
theorem dX8_tick_0 : decode cX8_tick 0 = .ok (.aload_n 1, 1) := by decide +kernel
theorem dX8_tick_1 : decode cX8_tick 1 = .ok (.iconst 0, 1) := by decide +kernel
theorem dX8_tick_2 : decode cX8_tick 2 = .ok (.iaload, 1) := by decide +kernel
theorem dX8_tick_3 : decode cX8_tick 3 = .ok (.istore_n 2, 1) := by decide +kernel
theorem dX8_tick_4 : decode cX8_tick 4 = .ok (.aload_n 1, 1) := by decide +kernel
theorem dX8_tick_5 : decode cX8_tick 5 = .ok (.iconst 4, 1) := by decide +kernel
theorem dX8_tick_6 : decode cX8_tick 6 = .ok (.dup2, 1) := by decide +kernel
theorem dX8_tick_7 : decode cX8_tick 7 = .ok (.iaload, 1) := by decide +kernel
theorem dX8_tick_8 : decode cX8_tick 8 = .ok (.iload_n 2, 1) := by decide +kernel
theorem dX8_tick_9 : decode cX8_tick 9 = .ok (.iconst 2, 1) := by decide +kernel
theorem dX8_tick_10 : decode cX8_tick 10 = .ok (.if_icmp .eq 8, 3) := by decide +kernel
theorem dX8_tick_13 : decode cX8_tick 13 = .ok (.bipush 9, 2) := by decide +kernel
theorem dX8_tick_15 : decode cX8_tick 15 = .ok (.goto 21, 3) := by decide +kernel
theorem dX8_tick_18 : decode cX8_tick 18 = .ok (.aload_n 1, 1) := by decide +kernel
theorem dX8_tick_19 : decode cX8_tick 19 = .ok (.iconst 2, 1) := by decide +kernel
theorem dX8_tick_20 : decode cX8_tick 20 = .ok (.iaload, 1) := by decide +kernel
theorem dX8_tick_21 : decode cX8_tick 21 = .ok (.iconst 1, 1) := by decide +kernel
theorem dX8_tick_22 : decode cX8_tick 22 = .ok (.iadd, 1) := by decide +kernel
theorem dX8_tick_23 : decode cX8_tick 23 = .ok (.aload_n 1, 1) := by decide +kernel
theorem dX8_tick_24 : decode cX8_tick 24 = .ok (.bipush 10, 2) := by decide +kernel
theorem dX8_tick_26 : decode cX8_tick 26 = .ok (.iaload, 1) := by decide +kernel
theorem dX8_tick_27 : decode cX8_tick 27 = .ok (.irem, 1) := by decide +kernel
theorem dX8_tick_28 : decode cX8_tick 28 = .ok (.ifCond .ne 7, 3) := by decide +kernel
theorem dX8_tick_31 : decode cX8_tick 31 = .ok (.iconst 5, 1) := by decide +kernel
theorem dX8_tick_32 : decode cX8_tick 32 = .ok (.goto 4, 3) := by decide +kernel
theorem dX8_tick_35 : decode cX8_tick 35 = .ok (.iconst 1, 1) := by decide +kernel
theorem dX8_tick_36 : decode cX8_tick 36 = .ok (.iadd, 1) := by decide +kernel
theorem dX8_tick_37 : decode cX8_tick 37 = .ok (.iastore, 1) := by decide +kernel
theorem dX8_tick_38 : decode cX8_tick 38 = .ok (.aload_n 1, 1) := by decide +kernel
theorem dX8_tick_39 : decode cX8_tick 39 = .ok (.iconst 3, 1) := by decide +kernel
theorem dX8_tick_40 : decode cX8_tick 40 = .ok (.dup2, 1) := by decide +kernel
theorem dX8_tick_41 : decode cX8_tick 41 = .ok (.iaload, 1) := by decide +kernel
theorem dX8_tick_42 : decode cX8_tick 42 = .ok (.iconst 1, 1) := by decide +kernel
theorem dX8_tick_43 : decode cX8_tick 43 = .ok (.iadd, 1) := by decide +kernel
theorem dX8_tick_44 : decode cX8_tick 44 = .ok (.iastore, 1) := by decide +kernel
theorem dX8_tick_45 : decode cX8_tick 45 = .ok (.iload_n 2, 1) := by decide +kernel
theorem dX8_tick_46 : decode cX8_tick 46 = .ok (.ifCond .ne 45, 3) := by decide +kernel
theorem dX8_tick_49 : decode cX8_tick 49 = .ok (.aload_n 1, 1) := by decide +kernel
theorem dX8_tick_50 : decode cX8_tick 50 = .ok (.iconst 0, 1) := by decide +kernel
theorem dX8_tick_51 : decode cX8_tick 51 = .ok (.invokestatic 73, 3) := by decide +kernel
theorem dX8_tick_54 : decode cX8_tick 54 = .ok (.aload_n 1, 1) := by decide +kernel
theorem dX8_tick_55 : decode cX8_tick 55 = .ok (.iconst 1, 1) := by decide +kernel
theorem dX8_tick_56 : decode cX8_tick 56 = .ok (.invokestatic 73, 3) := by decide +kernel
theorem dX8_tick_59 : decode cX8_tick 59 = .ok (.aload_n 1, 1) := by decide +kernel
theorem dX8_tick_60 : decode cX8_tick 60 = .ok (.invokestatic 77, 3) := by decide +kernel
theorem dX8_tick_63 : decode cX8_tick 63 = .ok (.ifCond .eq 130, 3) := by decide +kernel
theorem dX8_tick_66 : decode cX8_tick 66 = .ok (.aload_n 0, 1) := by decide +kernel
theorem dX8_tick_67 : decode cX8_tick 67 = .ok (.getfield 50, 3) := by decide +kernel
theorem dX8_tick_70 : decode cX8_tick 70 = .ok (.iconst 2, 1) := by decide +kernel
theorem dX8_tick_71 : decode cX8_tick 71 = .ok (.invokestatic 69, 3) := by decide +kernel
theorem dX8_tick_74 : decode cX8_tick 74 = .ok (.ifCond .eq 119, 3) := by decide +kernel
theorem dX8_tick_77 : decode cX8_tick 77 = .ok (.aload_n 1, 1) := by decide +kernel
theorem dX8_tick_78 : decode cX8_tick 78 = .ok (.iconst 0, 1) := by decide +kernel
theorem dX8_tick_79 : decode cX8_tick 79 = .ok (.iconst 1, 1) := by decide +kernel
theorem dX8_tick_80 : decode cX8_tick 80 = .ok (.iastore, 1) := by decide +kernel
theorem dX8_tick_81 : decode cX8_tick 81 = .ok (.aload_n 1, 1) := by decide +kernel
theorem dX8_tick_82 : decode cX8_tick 82 = .ok (.iconst 1, 1) := by decide +kernel
theorem dX8_tick_83 : decode cX8_tick 83 = .ok (.aload_n 1, 1) := by decide +kernel
theorem dX8_tick_84 : decode cX8_tick 84 = .ok (.bipush 9, 2) := by decide +kernel
theorem dX8_tick_86 : decode cX8_tick 86 = .ok (.iaload, 1) := by decide +kernel
theorem dX8_tick_87 : decode cX8_tick 87 = .ok (.iastore, 1) := by decide +kernel
theorem dX8_tick_88 : decode cX8_tick 88 = .ok (.goto 105, 3) := by decide +kernel
theorem dX8_tick_91 : decode cX8_tick 91 = .ok (.iload_n 2, 1) := by decide +kernel
theorem dX8_tick_92 : decode cX8_tick 92 = .ok (.iconst 1, 1) := by decide +kernel
theorem dX8_tick_93 : decode cX8_tick 93 = .ok (.if_icmp .ne 31, 3) := by decide +kernel
theorem dX8_tick_96 : decode cX8_tick 96 = .ok (.aload_n 1, 1) := by decide +kernel
theorem dX8_tick_97 : decode cX8_tick 97 = .ok (.iconst 1, 1) := by decide +kernel
theorem dX8_tick_98 : decode cX8_tick 98 = .ok (.dup2, 1) := by decide +kernel
theorem dX8_tick_99 : decode cX8_tick 99 = .ok (.iaload, 1) := by decide +kernel
theorem dX8_tick_100 : decode cX8_tick 100 = .ok (.iconst 1, 1) := by decide +kernel
theorem dX8_tick_101 : decode cX8_tick 101 = .ok (.isub, 1) := by decide +kernel
theorem dX8_tick_102 : decode cX8_tick 102 = .ok (.iastore, 1) := by decide +kernel
theorem dX8_tick_103 : decode cX8_tick 103 = .ok (.aload_n 1, 1) := by decide +kernel
theorem dX8_tick_104 : decode cX8_tick 104 = .ok (.iconst 0, 1) := by decide +kernel
theorem dX8_tick_105 : decode cX8_tick 105 = .ok (.aload_n 1, 1) := by decide +kernel
theorem dX8_tick_106 : decode cX8_tick 106 = .ok (.iconst 1, 1) := by decide +kernel
theorem dX8_tick_107 : decode cX8_tick 107 = .ok (.iaload, 1) := by decide +kernel
theorem dX8_tick_108 : decode cX8_tick 108 = .ok (.ifCond .ne 7, 3) := by decide +kernel
theorem dX8_tick_111 : decode cX8_tick 111 = .ok (.iconst 2, 1) := by decide +kernel
theorem dX8_tick_112 : decode cX8_tick 112 = .ok (.goto 4, 3) := by decide +kernel
theorem dX8_tick_115 : decode cX8_tick 115 = .ok (.iconst 1, 1) := by decide +kernel
theorem dX8_tick_116 : decode cX8_tick 116 = .ok (.iastore, 1) := by decide +kernel
theorem dX8_tick_117 : decode cX8_tick 117 = .ok (.aload_n 1, 1) := by decide +kernel
theorem dX8_tick_118 : decode cX8_tick 118 = .ok (.iconst 2, 1) := by decide +kernel
theorem dX8_tick_119 : decode cX8_tick 119 = .ok (.iconst 0, 1) := by decide +kernel
theorem dX8_tick_120 : decode cX8_tick 120 = .ok (.iastore, 1) := by decide +kernel
theorem dX8_tick_121 : decode cX8_tick 121 = .ok (.goto 72, 3) := by decide +kernel
theorem dX8_tick_124 : decode cX8_tick 124 = .ok (.iload_n 2, 1) := by decide +kernel
theorem dX8_tick_125 : decode cX8_tick 125 = .ok (.iconst 2, 1) := by decide +kernel
theorem dX8_tick_126 : decode cX8_tick 126 = .ok (.if_icmp .ne 46, 3) := by decide +kernel
theorem dX8_tick_129 : decode cX8_tick 129 = .ok (.aload_n 1, 1) := by decide +kernel
theorem dX8_tick_130 : decode cX8_tick 130 = .ok (.iconst 2, 1) := by decide +kernel
theorem dX8_tick_131 : decode cX8_tick 131 = .ok (.dup2, 1) := by decide +kernel
theorem dX8_tick_132 : decode cX8_tick 132 = .ok (.iaload, 1) := by decide +kernel
theorem dX8_tick_133 : decode cX8_tick 133 = .ok (.iconst 1, 1) := by decide +kernel
theorem dX8_tick_134 : decode cX8_tick 134 = .ok (.iadd, 1) := by decide +kernel
theorem dX8_tick_135 : decode cX8_tick 135 = .ok (.iastore, 1) := by decide +kernel
theorem dX8_tick_136 : decode cX8_tick 136 = .ok (.aload_n 0, 1) := by decide +kernel
theorem dX8_tick_137 : decode cX8_tick 137 = .ok (.aload_n 1, 1) := by decide +kernel
theorem dX8_tick_138 : decode cX8_tick 138 = .ok (.iconst 0, 1) := by decide +kernel
theorem dX8_tick_139 : decode cX8_tick 139 = .ok (.invokevirtual 81, 3) := by decide +kernel
theorem dX8_tick_142 : decode cX8_tick 142 = .ok (.ifCond .ne 12, 3) := by decide +kernel
theorem dX8_tick_145 : decode cX8_tick 145 = .ok (.aload_n 0, 1) := by decide +kernel
theorem dX8_tick_146 : decode cX8_tick 146 = .ok (.aload_n 1, 1) := by decide +kernel
theorem dX8_tick_147 : decode cX8_tick 147 = .ok (.iconst 1, 1) := by decide +kernel
theorem dX8_tick_148 : decode cX8_tick 148 = .ok (.invokevirtual 81, 3) := by decide +kernel
theorem dX8_tick_151 : decode cX8_tick 151 = .ok (.ifCond .eq 42, 3) := by decide +kernel
theorem dX8_tick_154 : decode cX8_tick 154 = .ok (.aload_n 1, 1) := by decide +kernel
theorem dX8_tick_155 : decode cX8_tick 155 = .ok (.iconst 0, 1) := by decide +kernel
theorem dX8_tick_156 : decode cX8_tick 156 = .ok (.iconst 3, 1) := by decide +kernel
theorem dX8_tick_157 : decode cX8_tick 157 = .ok (.iastore, 1) := by decide +kernel
theorem dX8_tick_158 : decode cX8_tick 158 = .ok (.aload_n 1, 1) := by decide +kernel
theorem dX8_tick_159 : decode cX8_tick 159 = .ok (.iconst 1, 1) := by decide +kernel
theorem dX8_tick_160 : decode cX8_tick 160 = .ok (.aload_n 1, 1) := by decide +kernel
theorem dX8_tick_161 : decode cX8_tick 161 = .ok (.invokestatic 85, 3) := by decide +kernel
theorem dX8_tick_164 : decode cX8_tick 164 = .ok (.iastore, 1) := by decide +kernel
theorem dX8_tick_165 : decode cX8_tick 165 = .ok (.aload_n 1, 1) := by decide +kernel
theorem dX8_tick_166 : decode cX8_tick 166 = .ok (.iconst 2, 1) := by decide +kernel
theorem dX8_tick_167 : decode cX8_tick 167 = .ok (.iconst 0, 1) := by decide +kernel
theorem dX8_tick_168 : decode cX8_tick 168 = .ok (.iastore, 1) := by decide +kernel
theorem dX8_tick_169 : decode cX8_tick 169 = .ok (.goto 24, 3) := by decide +kernel
theorem dX8_tick_172 : decode cX8_tick 172 = .ok (.aload_n 1, 1) := by decide +kernel
theorem dX8_tick_173 : decode cX8_tick 173 = .ok (.iconst 1, 1) := by decide +kernel
theorem dX8_tick_174 : decode cX8_tick 174 = .ok (.dup2, 1) := by decide +kernel
theorem dX8_tick_175 : decode cX8_tick 175 = .ok (.iaload, 1) := by decide +kernel
theorem dX8_tick_176 : decode cX8_tick 176 = .ok (.iconst 1, 1) := by decide +kernel
theorem dX8_tick_177 : decode cX8_tick 177 = .ok (.isub, 1) := by decide +kernel
theorem dX8_tick_178 : decode cX8_tick 178 = .ok (.iastore, 1) := by decide +kernel
theorem dX8_tick_179 : decode cX8_tick 179 = .ok (.aload_n 1, 1) := by decide +kernel
theorem dX8_tick_180 : decode cX8_tick 180 = .ok (.iconst 0, 1) := by decide +kernel
theorem dX8_tick_181 : decode cX8_tick 181 = .ok (.aload_n 1, 1) := by decide +kernel
theorem dX8_tick_182 : decode cX8_tick 182 = .ok (.iconst 1, 1) := by decide +kernel
theorem dX8_tick_183 : decode cX8_tick 183 = .ok (.iaload, 1) := by decide +kernel
theorem dX8_tick_184 : decode cX8_tick 184 = .ok (.ifCond .ne 7, 3) := by decide +kernel
theorem dX8_tick_187 : decode cX8_tick 187 = .ok (.iconst 0, 1) := by decide +kernel
theorem dX8_tick_188 : decode cX8_tick 188 = .ok (.goto 4, 3) := by decide +kernel
theorem dX8_tick_191 : decode cX8_tick 191 = .ok (.iconst 3, 1) := by decide +kernel
theorem dX8_tick_192 : decode cX8_tick 192 = .ok (.iastore, 1) := by decide +kernel
theorem dX8_tick_193 : decode cX8_tick 193 = .ok (.return_, 1) := by decide +kernel
theorem dX8_isQuiet_0 : decode cX8_isQuiet 0 = .ok (.aload_n 0, 1) := by decide +kernel
theorem dX8_isQuiet_1 : decode cX8_isQuiet 1 = .ok (.iconst 0, 1) := by decide +kernel
theorem dX8_isQuiet_2 : decode cX8_isQuiet 2 = .ok (.iaload, 1) := by decide +kernel
theorem dX8_isQuiet_3 : decode cX8_isQuiet 3 = .ok (.iconst 2, 1) := by decide +kernel
theorem dX8_isQuiet_4 : decode cX8_isQuiet 4 = .ok (.if_icmp .ne 14, 3) := by decide +kernel
theorem dX8_isQuiet_7 : decode cX8_isQuiet 7 = .ok (.aload_n 0, 1) := by decide +kernel
theorem dX8_isQuiet_8 : decode cX8_isQuiet 8 = .ok (.invokestatic 77, 3) := by decide +kernel
theorem dX8_isQuiet_11 : decode cX8_isQuiet 11 = .ok (.ifCond .eq 7, 3) := by decide +kernel
theorem dX8_isQuiet_14 : decode cX8_isQuiet 14 = .ok (.iconst 1, 1) := by decide +kernel
theorem dX8_isQuiet_15 : decode cX8_isQuiet 15 = .ok (.goto 4, 3) := by decide +kernel
theorem dX8_isQuiet_18 : decode cX8_isQuiet 18 = .ok (.iconst 0, 1) := by decide +kernel
theorem dX8_isQuiet_19 : decode cX8_isQuiet 19 = .ok (.ireturn, 1) := by decide +kernel
theorem dX8_quiet_0 : decode cX8_quiet 0 = .ok (.aload_n 1, 1) := by decide +kernel
theorem dX8_quiet_1 : decode cX8_quiet 1 = .ok (.aload_n 0, 1) := by decide +kernel
theorem dX8_quiet_2 : decode cX8_quiet 2 = .ok (.getfield 28, 3) := by decide +kernel
theorem dX8_quiet_5 : decode cX8_quiet 5 = .ok (.invokestatic 89, 3) := by decide +kernel
theorem dX8_quiet_8 : decode cX8_quiet 8 = .ok (.iconst 0, 1) := by decide +kernel
theorem dX8_quiet_9 : decode cX8_quiet 9 = .ok (.istore_n 2, 1) := by decide +kernel
theorem dX8_quiet_10 : decode cX8_quiet 10 = .ok (.iload_n 2, 1) := by decide +kernel
theorem dX8_quiet_11 : decode cX8_quiet 11 = .ok (.bipush 100, 2) := by decide +kernel
theorem dX8_quiet_13 : decode cX8_quiet 13 = .ok (.if_icmp .ge 29, 3) := by decide +kernel
theorem dX8_quiet_16 : decode cX8_quiet 16 = .ok (.aload_n 0, 1) := by decide +kernel
theorem dX8_quiet_17 : decode cX8_quiet 17 = .ok (.getfield 28, 3) := by decide +kernel
theorem dX8_quiet_20 : decode cX8_quiet 20 = .ok (.invokestatic 93, 3) := by decide +kernel
theorem dX8_quiet_23 : decode cX8_quiet 23 = .ok (.ifCond .eq 5, 3) := by decide +kernel
theorem dX8_quiet_26 : decode cX8_quiet 26 = .ok (.iload_n 2, 1) := by decide +kernel
theorem dX8_quiet_27 : decode cX8_quiet 27 = .ok (.ireturn, 1) := by decide +kernel
theorem dX8_quiet_28 : decode cX8_quiet 28 = .ok (.aload_n 0, 1) := by decide +kernel
theorem dX8_quiet_29 : decode cX8_quiet 29 = .ok (.aload_n 0, 1) := by decide +kernel
theorem dX8_quiet_30 : decode cX8_quiet 30 = .ok (.getfield 28, 3) := by decide +kernel
theorem dX8_quiet_33 : decode cX8_quiet 33 = .ok (.invokevirtual 96, 3) := by decide +kernel
theorem dX8_quiet_36 : decode cX8_quiet 36 = .ok (.iinc 2 1, 3) := by decide +kernel
theorem dX8_quiet_39 : decode cX8_quiet 39 = .ok (.goto (-29), 3) := by decide +kernel
theorem dX8_quiet_42 : decode cX8_quiet 42 = .ok (.bipush (-9), 2) := by decide +kernel
theorem dX8_quiet_44 : decode cX8_quiet 44 = .ok (.ireturn, 1) := by decide +kernel
theorem dX8_write_0 : decode cX8_write 0 = .ok (.aload_n 0, 1) := by decide +kernel
theorem dX8_write_1 : decode cX8_write 1 = .ok (.iconst 0, 1) := by decide +kernel
theorem dX8_write_2 : decode cX8_write 2 = .ok (.putfield 58, 3) := by decide +kernel
theorem dX8_write_5 : decode cX8_write 5 = .ok (.iload_n 1, 1) := by decide +kernel
theorem dX8_write_6 : decode cX8_write 6 = .ok (.i2l, 1) := by decide +kernel
theorem dX8_write_7 : decode cX8_write 7 = .ok (.lconst 0, 1) := by decide +kernel
theorem dX8_write_8 : decode cX8_write 8 = .ok (.ldc2_w 99, 3) := by decide +kernel
theorem dX8_write_11 : decode cX8_write 11 = .ok (.invokestatic 61, 3) := by decide +kernel
theorem dX8_write_14 : decode cX8_write 14 = .ok (.ifCond .ne 6, 3) := by decide +kernel
theorem dX8_write_17 : decode cX8_write 17 = .ok (.bipush (-2), 2) := by decide +kernel
theorem dX8_write_19 : decode cX8_write 19 = .ok (.ireturn, 1) := by decide +kernel
theorem dX8_write_20 : decode cX8_write 20 = .ok (.aload_n 0, 1) := by decide +kernel
theorem dX8_write_21 : decode cX8_write 21 = .ok (.getfield 101, 3) := by decide +kernel
theorem dX8_write_24 : decode cX8_write 24 = .ok (.bipush 80, 2) := by decide +kernel
theorem dX8_write_26 : decode cX8_write 26 = .ok (.if_icmp .ne 6, 3) := by decide +kernel
theorem dX8_write_29 : decode cX8_write 29 = .ok (.bipush (-4), 2) := by decide +kernel
theorem dX8_write_31 : decode cX8_write 31 = .ok (.ireturn, 1) := by decide +kernel
theorem dX8_write_32 : decode cX8_write 32 = .ok (.aload_n 0, 1) := by decide +kernel
theorem dX8_write_33 : decode cX8_write 33 = .ok (.getfield 7, 3) := by decide +kernel
theorem dX8_write_36 : decode cX8_write 36 = .ok (.aload_n 0, 1) := by decide +kernel
theorem dX8_write_37 : decode cX8_write 37 = .ok (.getfield 101, 3) := by decide +kernel
theorem dX8_write_40 : decode cX8_write 40 = .ok (.iload_n 1, 1) := by decide +kernel
theorem dX8_write_41 : decode cX8_write 41 = .ok (.iastore, 1) := by decide +kernel
theorem dX8_write_42 : decode cX8_write 42 = .ok (.aload_n 0, 1) := by decide +kernel
theorem dX8_write_43 : decode cX8_write 43 = .ok (.dup, 1) := by decide +kernel
theorem dX8_write_44 : decode cX8_write 44 = .ok (.getfield 101, 3) := by decide +kernel
theorem dX8_write_47 : decode cX8_write 47 = .ok (.iconst 1, 1) := by decide +kernel
theorem dX8_write_48 : decode cX8_write 48 = .ok (.iadd, 1) := by decide +kernel
theorem dX8_write_49 : decode cX8_write 49 = .ok (.putfield 101, 3) := by decide +kernel
theorem dX8_write_52 : decode cX8_write 52 = .ok (.aload_n 0, 1) := by decide +kernel
theorem dX8_write_53 : decode cX8_write 53 = .ok (.getfield 101, 3) := by decide +kernel
theorem dX8_write_56 : decode cX8_write 56 = .ok (.ireturn, 1) := by decide +kernel
theorem dX8_wipe_0 : decode cX8_wipe 0 = .ok (.aload_n 0, 1) := by decide +kernel
theorem dX8_wipe_1 : decode cX8_wipe 1 = .ok (.iconst 0, 1) := by decide +kernel
theorem dX8_wipe_2 : decode cX8_wipe 2 = .ok (.putfield 58, 3) := by decide +kernel
theorem dX8_wipe_5 : decode cX8_wipe 5 = .ok (.aload_n 0, 1) := by decide +kernel
theorem dX8_wipe_6 : decode cX8_wipe 6 = .ok (.getfield 101, 3) := by decide +kernel
theorem dX8_wipe_9 : decode cX8_wipe 9 = .ok (.istore_n 1, 1) := by decide +kernel
theorem dX8_wipe_10 : decode cX8_wipe 10 = .ok (.aload_n 0, 1) := by decide +kernel
theorem dX8_wipe_11 : decode cX8_wipe 11 = .ok (.iconst 0, 1) := by decide +kernel
theorem dX8_wipe_12 : decode cX8_wipe 12 = .ok (.putfield 101, 3) := by decide +kernel
theorem dX8_wipe_15 : decode cX8_wipe 15 = .ok (.iload_n 1, 1) := by decide +kernel
theorem dX8_wipe_16 : decode cX8_wipe 16 = .ok (.ireturn, 1) := by decide +kernel
theorem dX8_figure_0 : decode cX8_figure 0 = .ok (.aload_n 0, 1) := by decide +kernel
theorem dX8_figure_1 : decode cX8_figure 1 = .ok (.getfield 104, 3) := by decide +kernel
theorem dX8_figure_4 : decode cX8_figure 4 = .ok (.aload_n 0, 1) := by decide +kernel
theorem dX8_figure_5 : decode cX8_figure 5 = .ok (.getfield 101, 3) := by decide +kernel
theorem dX8_figure_8 : decode cX8_figure 8 = .ok (.if_icmp .ge 18, 3) := by decide +kernel
theorem dX8_figure_11 : decode cX8_figure 11 = .ok (.aload_n 0, 1) := by decide +kernel
theorem dX8_figure_12 : decode cX8_figure 12 = .ok (.getfield 7, 3) := by decide +kernel
theorem dX8_figure_15 : decode cX8_figure 15 = .ok (.aload_n 0, 1) := by decide +kernel
theorem dX8_figure_16 : decode cX8_figure 16 = .ok (.getfield 104, 3) := by decide +kernel
theorem dX8_figure_19 : decode cX8_figure 19 = .ok (.iaload, 1) := by decide +kernel
theorem dX8_figure_20 : decode cX8_figure 20 = .ok (.bipush 48, 2) := by decide +kernel
theorem dX8_figure_22 : decode cX8_figure 22 = .ok (.isub, 1) := by decide +kernel
theorem dX8_figure_23 : decode cX8_figure 23 = .ok (.goto 5, 3) := by decide +kernel
theorem dX8_figure_26 : decode cX8_figure 26 = .ok (.bipush (-9), 2) := by decide +kernel
theorem dX8_figure_28 : decode cX8_figure 28 = .ok (.istore_n 2, 1) := by decide +kernel
theorem dX8_figure_29 : decode cX8_figure 29 = .ok (.iload_n 2, 1) := by decide +kernel
theorem dX8_figure_30 : decode cX8_figure 30 = .ok (.i2l, 1) := by decide +kernel
theorem dX8_figure_31 : decode cX8_figure 31 = .ok (.iload_n 1, 1) := by decide +kernel
theorem dX8_figure_32 : decode cX8_figure 32 = .ok (.i2l, 1) := by decide +kernel
theorem dX8_figure_33 : decode cX8_figure 33 = .ok (.ldc2_w 107, 3) := by decide +kernel
theorem dX8_figure_36 : decode cX8_figure 36 = .ok (.invokestatic 61, 3) := by decide +kernel
theorem dX8_figure_39 : decode cX8_figure 39 = .ok (.ifCond .ne 6, 3) := by decide +kernel
theorem dX8_figure_42 : decode cX8_figure 42 = .ok (.bipush (-9), 2) := by decide +kernel
theorem dX8_figure_44 : decode cX8_figure 44 = .ok (.ireturn, 1) := by decide +kernel
theorem dX8_figure_45 : decode cX8_figure 45 = .ok (.aload_n 0, 1) := by decide +kernel
theorem dX8_figure_46 : decode cX8_figure 46 = .ok (.dup, 1) := by decide +kernel
theorem dX8_figure_47 : decode cX8_figure 47 = .ok (.getfield 104, 3) := by decide +kernel
theorem dX8_figure_50 : decode cX8_figure 50 = .ok (.iconst 1, 1) := by decide +kernel
theorem dX8_figure_51 : decode cX8_figure 51 = .ok (.iadd, 1) := by decide +kernel
theorem dX8_figure_52 : decode cX8_figure 52 = .ok (.putfield 104, 3) := by decide +kernel
theorem dX8_figure_55 : decode cX8_figure 55 = .ok (.iload_n 2, 1) := by decide +kernel
theorem dX8_figure_56 : decode cX8_figure 56 = .ok (.ireturn, 1) := by decide +kernel
theorem dX8_readLink_0 : decode cX8_readLink 0 = .ok (.aload_n 0, 1) := by decide +kernel
theorem dX8_readLink_1 : decode cX8_readLink 1 = .ok (.iconst 0, 1) := by decide +kernel
theorem dX8_readLink_2 : decode cX8_readLink 2 = .ok (.putfield 104, 3) := by decide +kernel
theorem dX8_readLink_5 : decode cX8_readLink 5 = .ok (.aload_n 0, 1) := by decide +kernel
theorem dX8_readLink_6 : decode cX8_readLink 6 = .ok (.iconst 0, 1) := by decide +kernel
theorem dX8_readLink_7 : decode cX8_readLink 7 = .ok (.putfield 109, 3) := by decide +kernel
theorem dX8_readLink_10 : decode cX8_readLink 10 = .ok (.aload_n 0, 1) := by decide +kernel
theorem dX8_readLink_11 : decode cX8_readLink 11 = .ok (.getfield 13, 3) := by decide +kernel
theorem dX8_readLink_14 : decode cX8_readLink 14 = .ok (.invokestatic 54, 3) := by decide +kernel
theorem dX8_readLink_17 : decode cX8_readLink 17 = .ok (.aload_n 0, 1) := by decide +kernel
theorem dX8_readLink_18 : decode cX8_readLink 18 = .ok (.getfield 101, 3) := by decide +kernel
theorem dX8_readLink_21 : decode cX8_readLink 21 = .ok (.ifCond .eq 14, 3) := by decide +kernel
theorem dX8_readLink_24 : decode cX8_readLink 24 = .ok (.aload_n 0, 1) := by decide +kernel
theorem dX8_readLink_25 : decode cX8_readLink 25 = .ok (.getfield 7, 3) := by decide +kernel
theorem dX8_readLink_28 : decode cX8_readLink 28 = .ok (.iconst 0, 1) := by decide +kernel
theorem dX8_readLink_29 : decode cX8_readLink 29 = .ok (.iaload, 1) := by decide +kernel
theorem dX8_readLink_30 : decode cX8_readLink 30 = .ok (.bipush 76, 2) := by decide +kernel
theorem dX8_readLink_32 : decode cX8_readLink 32 = .ok (.if_icmp .eq 5, 3) := by decide +kernel
theorem dX8_readLink_35 : decode cX8_readLink 35 = .ok (.iconst 0, 1) := by decide +kernel
theorem dX8_readLink_36 : decode cX8_readLink 36 = .ok (.ireturn, 1) := by decide +kernel
theorem dX8_readLink_37 : decode cX8_readLink 37 = .ok (.aload_n 0, 1) := by decide +kernel
theorem dX8_readLink_38 : decode cX8_readLink 38 = .ok (.iconst 1, 1) := by decide +kernel
theorem dX8_readLink_39 : decode cX8_readLink 39 = .ok (.putfield 104, 3) := by decide +kernel
theorem dX8_readLink_42 : decode cX8_readLink 42 = .ok (.iconst 0, 1) := by decide +kernel
theorem dX8_readLink_43 : decode cX8_readLink 43 = .ok (.istore_n 1, 1) := by decide +kernel
theorem dX8_readLink_44 : decode cX8_readLink 44 = .ok (.iload_n 1, 1) := by decide +kernel
theorem dX8_readLink_45 : decode cX8_readLink 45 = .ok (.bipush 8, 2) := by decide +kernel
theorem dX8_readLink_47 : decode cX8_readLink 47 = .ok (.if_icmp .ge 67, 3) := by decide +kernel
theorem dX8_readLink_50 : decode cX8_readLink 50 = .ok (.aload_n 0, 1) := by decide +kernel
theorem dX8_readLink_51 : decode cX8_readLink 51 = .ok (.iload_n 1, 1) := by decide +kernel
theorem dX8_readLink_52 : decode cX8_readLink 52 = .ok (.iconst 1, 1) := by decide +kernel
theorem dX8_readLink_53 : decode cX8_readLink 53 = .ok (.if_icmp .ne 7, 3) := by decide +kernel
theorem dX8_readLink_56 : decode cX8_readLink 56 = .ok (.iconst 2, 1) := by decide +kernel
theorem dX8_readLink_57 : decode cX8_readLink 57 = .ok (.goto 4, 3) := by decide +kernel
theorem dX8_readLink_60 : decode cX8_readLink 60 = .ok (.iconst 1, 1) := by decide +kernel
theorem dX8_readLink_61 : decode cX8_readLink 61 = .ok (.invokevirtual 112, 3) := by decide +kernel
theorem dX8_readLink_64 : decode cX8_readLink 64 = .ok (.istore_n 2, 1) := by decide +kernel
theorem dX8_readLink_65 : decode cX8_readLink 65 = .ok (.iload_n 2, 1) := by decide +kernel
theorem dX8_readLink_66 : decode cX8_readLink 66 = .ok (.bipush (-9), 2) := by decide +kernel
theorem dX8_readLink_68 : decode cX8_readLink 68 = .ok (.if_icmp .ne 8, 3) := by decide +kernel
theorem dX8_readLink_71 : decode cX8_readLink 71 = .ok (.aload_n 0, 1) := by decide +kernel
theorem dX8_readLink_72 : decode cX8_readLink 72 = .ok (.getfield 104, 3) := by decide +kernel
theorem dX8_readLink_75 : decode cX8_readLink 75 = .ok (.ireturn, 1) := by decide +kernel
theorem dX8_readLink_76 : decode cX8_readLink 76 = .ok (.aload_n 0, 1) := by decide +kernel
theorem dX8_readLink_77 : decode cX8_readLink 77 = .ok (.getfield 13, 3) := by decide +kernel
theorem dX8_readLink_80 : decode cX8_readLink 80 = .ok (.iload_n 1, 1) := by decide +kernel
theorem dX8_readLink_81 : decode cX8_readLink 81 = .ok (.iconst 2, 1) := by decide +kernel
theorem dX8_readLink_82 : decode cX8_readLink 82 = .ok (.if_icmp .ge 10, 3) := by decide +kernel
theorem dX8_readLink_85 : decode cX8_readLink 85 = .ok (.bipush 9, 2) := by decide +kernel
theorem dX8_readLink_87 : decode cX8_readLink 87 = .ok (.iload_n 1, 1) := by decide +kernel
theorem dX8_readLink_88 : decode cX8_readLink 88 = .ok (.iadd, 1) := by decide +kernel
theorem dX8_readLink_89 : decode cX8_readLink 89 = .ok (.goto 17, 3) := by decide +kernel
theorem dX8_readLink_92 : decode cX8_readLink 92 = .ok (.iload_n 1, 1) := by decide +kernel
theorem dX8_readLink_93 : decode cX8_readLink 93 = .ok (.iconst 2, 1) := by decide +kernel
theorem dX8_readLink_94 : decode cX8_readLink 94 = .ok (.isub, 1) := by decide +kernel
theorem dX8_readLink_95 : decode cX8_readLink 95 = .ok (.iconst 3, 1) := by decide +kernel
theorem dX8_readLink_96 : decode cX8_readLink 96 = .ok (.idiv, 1) := by decide +kernel
theorem dX8_readLink_97 : decode cX8_readLink 97 = .ok (.invokestatic 65, 3) := by decide +kernel
theorem dX8_readLink_100 : decode cX8_readLink 100 = .ok (.iload_n 1, 1) := by decide +kernel
theorem dX8_readLink_101 : decode cX8_readLink 101 = .ok (.iconst 2, 1) := by decide +kernel
theorem dX8_readLink_102 : decode cX8_readLink 102 = .ok (.isub, 1) := by decide +kernel
theorem dX8_readLink_103 : decode cX8_readLink 103 = .ok (.iconst 3, 1) := by decide +kernel
theorem dX8_readLink_104 : decode cX8_readLink 104 = .ok (.irem, 1) := by decide +kernel
theorem dX8_readLink_105 : decode cX8_readLink 105 = .ok (.iadd, 1) := by decide +kernel
theorem dX8_readLink_106 : decode cX8_readLink 106 = .ok (.iload_n 2, 1) := by decide +kernel
theorem dX8_readLink_107 : decode cX8_readLink 107 = .ok (.iastore, 1) := by decide +kernel
theorem dX8_readLink_108 : decode cX8_readLink 108 = .ok (.iinc 1 1, 3) := by decide +kernel
theorem dX8_readLink_111 : decode cX8_readLink 111 = .ok (.goto (-67), 3) := by decide +kernel
theorem dX8_readLink_114 : decode cX8_readLink 114 = .ok (.aload_n 0, 1) := by decide +kernel
theorem dX8_readLink_115 : decode cX8_readLink 115 = .ok (.getfield 13, 3) := by decide +kernel
theorem dX8_readLink_118 : decode cX8_readLink 118 = .ok (.iconst 0, 1) := by decide +kernel
theorem dX8_readLink_119 : decode cX8_readLink 119 = .ok (.invokestatic 65, 3) := by decide +kernel
theorem dX8_readLink_122 : decode cX8_readLink 122 = .ok (.iconst 3, 1) := by decide +kernel
theorem dX8_readLink_123 : decode cX8_readLink 123 = .ok (.iadd, 1) := by decide +kernel
theorem dX8_readLink_124 : decode cX8_readLink 124 = .ok (.aload_n 0, 1) := by decide +kernel
theorem dX8_readLink_125 : decode cX8_readLink 125 = .ok (.getfield 13, 3) := by decide +kernel
theorem dX8_readLink_128 : decode cX8_readLink 128 = .ok (.iconst 1, 1) := by decide +kernel
theorem dX8_readLink_129 : decode cX8_readLink 129 = .ok (.invokestatic 65, 3) := by decide +kernel
theorem dX8_readLink_132 : decode cX8_readLink 132 = .ok (.iaload, 1) := by decide +kernel
theorem dX8_readLink_133 : decode cX8_readLink 133 = .ok (.iastore, 1) := by decide +kernel
theorem dX8_readLink_134 : decode cX8_readLink 134 = .ok (.aload_n 0, 1) := by decide +kernel
theorem dX8_readLink_135 : decode cX8_readLink 135 = .ok (.getfield 13, 3) := by decide +kernel
theorem dX8_readLink_138 : decode cX8_readLink 138 = .ok (.iconst 1, 1) := by decide +kernel
theorem dX8_readLink_139 : decode cX8_readLink 139 = .ok (.invokestatic 65, 3) := by decide +kernel
theorem dX8_readLink_142 : decode cX8_readLink 142 = .ok (.iconst 3, 1) := by decide +kernel
theorem dX8_readLink_143 : decode cX8_readLink 143 = .ok (.iadd, 1) := by decide +kernel
theorem dX8_readLink_144 : decode cX8_readLink 144 = .ok (.aload_n 0, 1) := by decide +kernel
theorem dX8_readLink_145 : decode cX8_readLink 145 = .ok (.getfield 13, 3) := by decide +kernel
theorem dX8_readLink_148 : decode cX8_readLink 148 = .ok (.iconst 0, 1) := by decide +kernel
theorem dX8_readLink_149 : decode cX8_readLink 149 = .ok (.invokestatic 65, 3) := by decide +kernel
theorem dX8_readLink_152 : decode cX8_readLink 152 = .ok (.iaload, 1) := by decide +kernel
theorem dX8_readLink_153 : decode cX8_readLink 153 = .ok (.iastore, 1) := by decide +kernel
theorem dX8_readLink_154 : decode cX8_readLink 154 = .ok (.aload_n 0, 1) := by decide +kernel
theorem dX8_readLink_155 : decode cX8_readLink 155 = .ok (.getfield 104, 3) := by decide +kernel
theorem dX8_readLink_158 : decode cX8_readLink 158 = .ok (.aload_n 0, 1) := by decide +kernel
theorem dX8_readLink_159 : decode cX8_readLink 159 = .ok (.getfield 101, 3) := by decide +kernel
theorem dX8_readLink_162 : decode cX8_readLink 162 = .ok (.if_icmp .ge 125, 3) := by decide +kernel
theorem dX8_readLink_165 : decode cX8_readLink 165 = .ok (.aload_n 0, 1) := by decide +kernel
theorem dX8_readLink_166 : decode cX8_readLink 166 = .ok (.getfield 7, 3) := by decide +kernel
theorem dX8_readLink_169 : decode cX8_readLink 169 = .ok (.aload_n 0, 1) := by decide +kernel
theorem dX8_readLink_170 : decode cX8_readLink 170 = .ok (.getfield 104, 3) := by decide +kernel
theorem dX8_readLink_173 : decode cX8_readLink 173 = .ok (.iaload, 1) := by decide +kernel
theorem dX8_readLink_174 : decode cX8_readLink 174 = .ok (.i2l, 1) := by decide +kernel
theorem dX8_readLink_175 : decode cX8_readLink 175 = .ok (.ldc2_w 115, 3) := by decide +kernel
theorem dX8_readLink_178 : decode cX8_readLink 178 = .ok (.ldc2_w 117, 3) := by decide +kernel
theorem dX8_readLink_181 : decode cX8_readLink 181 = .ok (.invokestatic 61, 3) := by decide +kernel
theorem dX8_readLink_184 : decode cX8_readLink 184 = .ok (.ifCond .eq 18, 3) := by decide +kernel
theorem dX8_readLink_187 : decode cX8_readLink 187 = .ok (.aload_n 0, 1) := by decide +kernel
theorem dX8_readLink_188 : decode cX8_readLink 188 = .ok (.getfield 7, 3) := by decide +kernel
theorem dX8_readLink_191 : decode cX8_readLink 191 = .ok (.aload_n 0, 1) := by decide +kernel
theorem dX8_readLink_192 : decode cX8_readLink 192 = .ok (.getfield 104, 3) := by decide +kernel
theorem dX8_readLink_195 : decode cX8_readLink 195 = .ok (.iaload, 1) := by decide +kernel
theorem dX8_readLink_196 : decode cX8_readLink 196 = .ok (.bipush 87, 2) := by decide +kernel
theorem dX8_readLink_198 : decode cX8_readLink 198 = .ok (.isub, 1) := by decide +kernel
theorem dX8_readLink_199 : decode cX8_readLink 199 = .ok (.goto 15, 3) := by decide +kernel
theorem dX8_readLink_202 : decode cX8_readLink 202 = .ok (.aload_n 0, 1) := by decide +kernel
theorem dX8_readLink_203 : decode cX8_readLink 203 = .ok (.getfield 7, 3) := by decide +kernel
theorem dX8_readLink_206 : decode cX8_readLink 206 = .ok (.aload_n 0, 1) := by decide +kernel
theorem dX8_readLink_207 : decode cX8_readLink 207 = .ok (.getfield 104, 3) := by decide +kernel
theorem dX8_readLink_210 : decode cX8_readLink 210 = .ok (.iaload, 1) := by decide +kernel
theorem dX8_readLink_211 : decode cX8_readLink 211 = .ok (.bipush 48, 2) := by decide +kernel
theorem dX8_readLink_213 : decode cX8_readLink 213 = .ok (.isub, 1) := by decide +kernel
theorem dX8_readLink_214 : decode cX8_readLink 214 = .ok (.istore_n 1, 1) := by decide +kernel
theorem dX8_readLink_215 : decode cX8_readLink 215 = .ok (.iload_n 1, 1) := by decide +kernel
theorem dX8_readLink_216 : decode cX8_readLink 216 = .ok (.i2l, 1) := by decide +kernel
theorem dX8_readLink_217 : decode cX8_readLink 217 = .ok (.lconst 1, 1) := by decide +kernel
theorem dX8_readLink_218 : decode cX8_readLink 218 = .ok (.ldc2_w 107, 3) := by decide +kernel
theorem dX8_readLink_221 : decode cX8_readLink 221 = .ok (.invokestatic 61, 3) := by decide +kernel
theorem dX8_readLink_224 : decode cX8_readLink 224 = .ok (.ifCond .ne 30, 3) := by decide +kernel
theorem dX8_readLink_227 : decode cX8_readLink 227 = .ok (.aload_n 0, 1) := by decide +kernel
theorem dX8_readLink_228 : decode cX8_readLink 228 = .ok (.getfield 7, 3) := by decide +kernel
theorem dX8_readLink_231 : decode cX8_readLink 231 = .ok (.aload_n 0, 1) := by decide +kernel
theorem dX8_readLink_232 : decode cX8_readLink 232 = .ok (.getfield 104, 3) := by decide +kernel
theorem dX8_readLink_235 : decode cX8_readLink 235 = .ok (.iaload, 1) := by decide +kernel
theorem dX8_readLink_236 : decode cX8_readLink 236 = .ok (.i2l, 1) := by decide +kernel
theorem dX8_readLink_237 : decode cX8_readLink 237 = .ok (.ldc2_w 115, 3) := by decide +kernel
theorem dX8_readLink_240 : decode cX8_readLink 240 = .ok (.ldc2_w 117, 3) := by decide +kernel
theorem dX8_readLink_243 : decode cX8_readLink 243 = .ok (.invokestatic 61, 3) := by decide +kernel
theorem dX8_readLink_246 : decode cX8_readLink 246 = .ok (.ifCond .ne 8, 3) := by decide +kernel
theorem dX8_readLink_249 : decode cX8_readLink 249 = .ok (.aload_n 0, 1) := by decide +kernel
theorem dX8_readLink_250 : decode cX8_readLink 250 = .ok (.getfield 104, 3) := by decide +kernel
theorem dX8_readLink_253 : decode cX8_readLink 253 = .ok (.ireturn, 1) := by decide +kernel
theorem dX8_readLink_254 : decode cX8_readLink 254 = .ok (.aload_n 0, 1) := by decide +kernel
theorem dX8_readLink_255 : decode cX8_readLink 255 = .ok (.getfield 16, 3) := by decide +kernel
theorem dX8_readLink_258 : decode cX8_readLink 258 = .ok (.aload_n 0, 1) := by decide +kernel
theorem dX8_readLink_259 : decode cX8_readLink 259 = .ok (.getfield 109, 3) := by decide +kernel
theorem dX8_readLink_262 : decode cX8_readLink 262 = .ok (.iload_n 1, 1) := by decide +kernel
theorem dX8_readLink_263 : decode cX8_readLink 263 = .ok (.iastore, 1) := by decide +kernel
theorem dX8_readLink_264 : decode cX8_readLink 264 = .ok (.aload_n 0, 1) := by decide +kernel
theorem dX8_readLink_265 : decode cX8_readLink 265 = .ok (.dup, 1) := by decide +kernel
theorem dX8_readLink_266 : decode cX8_readLink 266 = .ok (.getfield 109, 3) := by decide +kernel
theorem dX8_readLink_269 : decode cX8_readLink 269 = .ok (.iconst 1, 1) := by decide +kernel
theorem dX8_readLink_270 : decode cX8_readLink 270 = .ok (.iadd, 1) := by decide +kernel
theorem dX8_readLink_271 : decode cX8_readLink 271 = .ok (.putfield 109, 3) := by decide +kernel
theorem dX8_readLink_274 : decode cX8_readLink 274 = .ok (.aload_n 0, 1) := by decide +kernel
theorem dX8_readLink_275 : decode cX8_readLink 275 = .ok (.dup, 1) := by decide +kernel
theorem dX8_readLink_276 : decode cX8_readLink 276 = .ok (.getfield 104, 3) := by decide +kernel
theorem dX8_readLink_279 : decode cX8_readLink 279 = .ok (.iconst 1, 1) := by decide +kernel
theorem dX8_readLink_280 : decode cX8_readLink 280 = .ok (.iadd, 1) := by decide +kernel
theorem dX8_readLink_281 : decode cX8_readLink 281 = .ok (.putfield 104, 3) := by decide +kernel
theorem dX8_readLink_284 : decode cX8_readLink 284 = .ok (.goto (-130), 3) := by decide +kernel
theorem dX8_readLink_287 : decode cX8_readLink 287 = .ok (.bipush (-9), 2) := by decide +kernel
theorem dX8_readLink_289 : decode cX8_readLink 289 = .ok (.ireturn, 1) := by decide +kernel
theorem dX8_fault_0 : decode cX8_fault 0 = .ok (.aload_n 0, 1) := by decide +kernel
theorem dX8_fault_1 : decode cX8_fault 1 = .ok (.iconst 0, 1) := by decide +kernel
theorem dX8_fault_2 : decode cX8_fault 2 = .ok (.putfield 58, 3) := by decide +kernel
theorem dX8_fault_5 : decode cX8_fault 5 = .ok (.aload_n 0, 1) := by decide +kernel
theorem dX8_fault_6 : decode cX8_fault 6 = .ok (.invokevirtual 119, 3) := by decide +kernel
theorem dX8_fault_9 : decode cX8_fault 9 = .ok (.ireturn, 1) := by decide +kernel
theorem dX8_doEvent_0 : decode cX8_doEvent 0 = .ok (.iload_n 2, 1) := by decide +kernel
theorem dX8_doEvent_1 : decode cX8_doEvent 1 = .ok (.bipush 10, 2) := by decide +kernel
theorem dX8_doEvent_3 : decode cX8_doEvent 3 = .ok (.if_icmp .ge 24, 3) := by decide +kernel
theorem dX8_doEvent_6 : decode cX8_doEvent 6 = .ok (.iconst 0, 1) := by decide +kernel
theorem dX8_doEvent_7 : decode cX8_doEvent 7 = .ok (.istore_n 3, 1) := by decide +kernel
theorem dX8_doEvent_8 : decode cX8_doEvent 8 = .ok (.iload_n 3, 1) := by decide +kernel
theorem dX8_doEvent_9 : decode cX8_doEvent 9 = .ok (.iload_n 2, 1) := by decide +kernel
theorem dX8_doEvent_10 : decode cX8_doEvent 10 = .ok (.if_icmp .ge 14, 3) := by decide +kernel
theorem dX8_doEvent_13 : decode cX8_doEvent 13 = .ok (.aload_n 0, 1) := by decide +kernel
theorem dX8_doEvent_14 : decode cX8_doEvent 14 = .ok (.aload_n 1, 1) := by decide +kernel
theorem dX8_doEvent_15 : decode cX8_doEvent 15 = .ok (.invokevirtual 96, 3) := by decide +kernel
theorem dX8_doEvent_18 : decode cX8_doEvent 18 = .ok (.iinc 3 1, 3) := by decide +kernel
theorem dX8_doEvent_21 : decode cX8_doEvent 21 = .ok (.goto (-13), 3) := by decide +kernel
theorem dX8_doEvent_24 : decode cX8_doEvent 24 = .ok (.goto 34, 3) := by decide +kernel
theorem dX8_doEvent_27 : decode cX8_doEvent 27 = .ok (.aload_n 1, 1) := by decide +kernel
theorem dX8_doEvent_28 : decode cX8_doEvent 28 = .ok (.iload_n 2, 1) := by decide +kernel
theorem dX8_doEvent_29 : decode cX8_doEvent 29 = .ok (.bipush 10, 2) := by decide +kernel
theorem dX8_doEvent_31 : decode cX8_doEvent 31 = .ok (.isub, 1) := by decide +kernel
theorem dX8_doEvent_32 : decode cX8_doEvent 32 = .ok (.invokestatic 123, 3) := by decide +kernel
theorem dX8_doEvent_35 : decode cX8_doEvent 35 = .ok (.ifCond .eq 14, 3) := by decide +kernel
theorem dX8_doEvent_38 : decode cX8_doEvent 38 = .ok (.aload_n 1, 1) := by decide +kernel
theorem dX8_doEvent_39 : decode cX8_doEvent 39 = .ok (.bipush 8, 2) := by decide +kernel
theorem dX8_doEvent_41 : decode cX8_doEvent 41 = .ok (.dup2, 1) := by decide +kernel
theorem dX8_doEvent_42 : decode cX8_doEvent 42 = .ok (.iaload, 1) := by decide +kernel
theorem dX8_doEvent_43 : decode cX8_doEvent 43 = .ok (.iconst 1, 1) := by decide +kernel
theorem dX8_doEvent_44 : decode cX8_doEvent 44 = .ok (.iadd, 1) := by decide +kernel
theorem dX8_doEvent_45 : decode cX8_doEvent 45 = .ok (.iastore, 1) := by decide +kernel
theorem dX8_doEvent_46 : decode cX8_doEvent 46 = .ok (.goto 12, 3) := by decide +kernel
theorem dX8_doEvent_49 : decode cX8_doEvent 49 = .ok (.aload_n 1, 1) := by decide +kernel
theorem dX8_doEvent_50 : decode cX8_doEvent 50 = .ok (.iload_n 2, 1) := by decide +kernel
theorem dX8_doEvent_51 : decode cX8_doEvent 51 = .ok (.bipush 10, 2) := by decide +kernel
theorem dX8_doEvent_53 : decode cX8_doEvent 53 = .ok (.isub, 1) := by decide +kernel
theorem dX8_doEvent_54 : decode cX8_doEvent 54 = .ok (.iconst 0, 1) := by decide +kernel
theorem dX8_doEvent_55 : decode cX8_doEvent 55 = .ok (.invokestatic 126, 3) := by decide +kernel
theorem dX8_doEvent_58 : decode cX8_doEvent 58 = .ok (.return_, 1) := by decide +kernel
theorem dX8_link_0 : decode cX8_link 0 = .ok (.aload_n 0, 1) := by decide +kernel
theorem dX8_link_1 : decode cX8_link 1 = .ok (.iconst 0, 1) := by decide +kernel
theorem dX8_link_2 : decode cX8_link 2 = .ok (.putfield 58, 3) := by decide +kernel
theorem dX8_link_5 : decode cX8_link 5 = .ok (.aload_n 0, 1) := by decide +kernel
theorem dX8_link_6 : decode cX8_link 6 = .ok (.invokevirtual 119, 3) := by decide +kernel
theorem dX8_link_9 : decode cX8_link 9 = .ok (.bipush (-9), 2) := by decide +kernel
theorem dX8_link_11 : decode cX8_link 11 = .ok (.if_icmp .eq 6, 3) := by decide +kernel
theorem dX8_link_14 : decode cX8_link 14 = .ok (.bipush (-3), 2) := by decide +kernel
theorem dX8_link_16 : decode cX8_link 16 = .ok (.ireturn, 1) := by decide +kernel
theorem dX8_link_17 : decode cX8_link 17 = .ok (.aload_n 0, 1) := by decide +kernel
theorem dX8_link_18 : decode cX8_link 18 = .ok (.getfield 13, 3) := by decide +kernel
theorem dX8_link_21 : decode cX8_link 21 = .ok (.aload_n 0, 1) := by decide +kernel
theorem dX8_link_22 : decode cX8_link 22 = .ok (.getfield 22, 3) := by decide +kernel
theorem dX8_link_25 : decode cX8_link 25 = .ok (.invokestatic 89, 3) := by decide +kernel
theorem dX8_link_28 : decode cX8_link 28 = .ok (.aload_n 0, 1) := by decide +kernel
theorem dX8_link_29 : decode cX8_link 29 = .ok (.aload_n 0, 1) := by decide +kernel
theorem dX8_link_30 : decode cX8_link 30 = .ok (.getfield 109, 3) := by decide +kernel
theorem dX8_link_33 : decode cX8_link 33 = .ok (.putfield 130, 3) := by decide +kernel
theorem dX8_link_36 : decode cX8_link 36 = .ok (.aload_n 0, 1) := by decide +kernel
theorem dX8_link_37 : decode cX8_link 37 = .ok (.getfield 22, 3) := by decide +kernel
theorem dX8_link_40 : decode cX8_link 40 = .ok (.aload_n 0, 1) := by decide +kernel
theorem dX8_link_41 : decode cX8_link 41 = .ok (.getfield 19, 3) := by decide +kernel
theorem dX8_link_44 : decode cX8_link 44 = .ok (.invokestatic 89, 3) := by decide +kernel
theorem dX8_link_47 : decode cX8_link 47 = .ok (.iconst 0, 1) := by decide +kernel
theorem dX8_link_48 : decode cX8_link 48 = .ok (.istore_n 1, 1) := by decide +kernel
theorem dX8_link_49 : decode cX8_link 49 = .ok (.iload_n 1, 1) := by decide +kernel
theorem dX8_link_50 : decode cX8_link 50 = .ok (.aload_n 0, 1) := by decide +kernel
theorem dX8_link_51 : decode cX8_link 51 = .ok (.getfield 130, 3) := by decide +kernel
theorem dX8_link_54 : decode cX8_link 54 = .ok (.if_icmp .ge 35, 3) := by decide +kernel
theorem dX8_link_57 : decode cX8_link 57 = .ok (.aload_n 0, 1) := by decide +kernel
theorem dX8_link_58 : decode cX8_link 58 = .ok (.getfield 25, 3) := by decide +kernel
theorem dX8_link_61 : decode cX8_link 61 = .ok (.iload_n 1, 1) := by decide +kernel
theorem dX8_link_62 : decode cX8_link 62 = .ok (.aload_n 0, 1) := by decide +kernel
theorem dX8_link_63 : decode cX8_link 63 = .ok (.getfield 16, 3) := by decide +kernel
theorem dX8_link_66 : decode cX8_link 66 = .ok (.iload_n 1, 1) := by decide +kernel
theorem dX8_link_67 : decode cX8_link 67 = .ok (.iaload, 1) := by decide +kernel
theorem dX8_link_68 : decode cX8_link 68 = .ok (.iastore, 1) := by decide +kernel
theorem dX8_link_69 : decode cX8_link 69 = .ok (.aload_n 0, 1) := by decide +kernel
theorem dX8_link_70 : decode cX8_link 70 = .ok (.aload_n 0, 1) := by decide +kernel
theorem dX8_link_71 : decode cX8_link 71 = .ok (.getfield 19, 3) := by decide +kernel
theorem dX8_link_74 : decode cX8_link 74 = .ok (.aload_n 0, 1) := by decide +kernel
theorem dX8_link_75 : decode cX8_link 75 = .ok (.getfield 25, 3) := by decide +kernel
theorem dX8_link_78 : decode cX8_link 78 = .ok (.iload_n 1, 1) := by decide +kernel
theorem dX8_link_79 : decode cX8_link 79 = .ok (.iaload, 1) := by decide +kernel
theorem dX8_link_80 : decode cX8_link 80 = .ok (.invokevirtual 133, 3) := by decide +kernel
theorem dX8_link_83 : decode cX8_link 83 = .ok (.iinc 1 1, 3) := by decide +kernel
theorem dX8_link_86 : decode cX8_link 86 = .ok (.goto (-37), 3) := by decide +kernel
theorem dX8_link_89 : decode cX8_link 89 = .ok (.aload_n 0, 1) := by decide +kernel
theorem dX8_link_90 : decode cX8_link 90 = .ok (.iconst 0, 1) := by decide +kernel
theorem dX8_link_91 : decode cX8_link 91 = .ok (.putfield 136, 3) := by decide +kernel
theorem dX8_link_94 : decode cX8_link 94 = .ok (.aload_n 0, 1) := by decide +kernel
theorem dX8_link_95 : decode cX8_link 95 = .ok (.getfield 37, 3) := by decide +kernel
theorem dX8_link_98 : decode cX8_link 98 = .ok (.iconst 0, 1) := by decide +kernel
theorem dX8_link_99 : decode cX8_link 99 = .ok (.iconst 0, 1) := by decide +kernel
theorem dX8_link_100 : decode cX8_link 100 = .ok (.bastore, 1) := by decide +kernel
theorem dX8_link_101 : decode cX8_link 101 = .ok (.aload_n 0, 1) := by decide +kernel
theorem dX8_link_102 : decode cX8_link 102 = .ok (.getfield 37, 3) := by decide +kernel
theorem dX8_link_105 : decode cX8_link 105 = .ok (.iconst 1, 1) := by decide +kernel
theorem dX8_link_106 : decode cX8_link 106 = .ok (.iconst 0, 1) := by decide +kernel
theorem dX8_link_107 : decode cX8_link 107 = .ok (.bastore, 1) := by decide +kernel
theorem dX8_link_108 : decode cX8_link 108 = .ok (.aload_n 0, 1) := by decide +kernel
theorem dX8_link_109 : decode cX8_link 109 = .ok (.getfield 19, 3) := by decide +kernel
theorem dX8_link_112 : decode cX8_link 112 = .ok (.iconst 3, 1) := by decide +kernel
theorem dX8_link_113 : decode cX8_link 113 = .ok (.iaload, 1) := by decide +kernel
theorem dX8_link_114 : decode cX8_link 114 = .ok (.ireturn, 1) := by decide +kernel
theorem dX8_told_0 : decode cX8_told 0 = .ok (.iload_n 1, 1) := by decide +kernel
theorem dX8_told_1 : decode cX8_told 1 = .ok (.tableswitch 77 0 3 #[31, 35, 57, 72], 31) := by decide +kernel
theorem dX8_told_32 : decode cX8_told 32 = .ok (.aload_n 0, 1) := by decide +kernel
theorem dX8_told_33 : decode cX8_told 33 = .ok (.iconst 0, 1) := by decide +kernel
theorem dX8_told_34 : decode cX8_told 34 = .ok (.iaload, 1) := by decide +kernel
theorem dX8_told_35 : decode cX8_told 35 = .ok (.ireturn, 1) := by decide +kernel
theorem dX8_told_36 : decode cX8_told 36 = .ok (.aload_n 0, 1) := by decide +kernel
theorem dX8_told_37 : decode cX8_told 37 = .ok (.iconst 0, 1) := by decide +kernel
theorem dX8_told_38 : decode cX8_told 38 = .ok (.iaload, 1) := by decide +kernel
theorem dX8_told_39 : decode cX8_told 39 = .ok (.iconst 1, 1) := by decide +kernel
theorem dX8_told_40 : decode cX8_told 40 = .ok (.if_icmp .eq 10, 3) := by decide +kernel
theorem dX8_told_43 : decode cX8_told 43 = .ok (.aload_n 0, 1) := by decide +kernel
theorem dX8_told_44 : decode cX8_told 44 = .ok (.iconst 0, 1) := by decide +kernel
theorem dX8_told_45 : decode cX8_told 45 = .ok (.iaload, 1) := by decide +kernel
theorem dX8_told_46 : decode cX8_told 46 = .ok (.iconst 3, 1) := by decide +kernel
theorem dX8_told_47 : decode cX8_told 47 = .ok (.if_icmp .ne 9, 3) := by decide +kernel
theorem dX8_told_50 : decode cX8_told 50 = .ok (.aload_n 0, 1) := by decide +kernel
theorem dX8_told_51 : decode cX8_told 51 = .ok (.iconst 1, 1) := by decide +kernel
theorem dX8_told_52 : decode cX8_told 52 = .ok (.iaload, 1) := by decide +kernel
theorem dX8_told_53 : decode cX8_told 53 = .ok (.goto 4, 3) := by decide +kernel
theorem dX8_told_56 : decode cX8_told 56 = .ok (.iconst 0, 1) := by decide +kernel
theorem dX8_told_57 : decode cX8_told 57 = .ok (.ireturn, 1) := by decide +kernel
theorem dX8_told_58 : decode cX8_told 58 = .ok (.aload_n 0, 1) := by decide +kernel
theorem dX8_told_59 : decode cX8_told 59 = .ok (.iconst 0, 1) := by decide +kernel
theorem dX8_told_60 : decode cX8_told 60 = .ok (.iaload, 1) := by decide +kernel
theorem dX8_told_61 : decode cX8_told 61 = .ok (.iconst 2, 1) := by decide +kernel
theorem dX8_told_62 : decode cX8_told 62 = .ok (.if_icmp .ne 9, 3) := by decide +kernel
theorem dX8_told_65 : decode cX8_told 65 = .ok (.aload_n 0, 1) := by decide +kernel
theorem dX8_told_66 : decode cX8_told 66 = .ok (.iconst 2, 1) := by decide +kernel
theorem dX8_told_67 : decode cX8_told 67 = .ok (.iaload, 1) := by decide +kernel
theorem dX8_told_68 : decode cX8_told 68 = .ok (.goto 4, 3) := by decide +kernel
theorem dX8_told_71 : decode cX8_told 71 = .ok (.iconst 0, 1) := by decide +kernel
theorem dX8_told_72 : decode cX8_told 72 = .ok (.ireturn, 1) := by decide +kernel
theorem dX8_told_73 : decode cX8_told 73 = .ok (.aload_n 0, 1) := by decide +kernel
theorem dX8_told_74 : decode cX8_told 74 = .ok (.invokestatic 85, 3) := by decide +kernel
theorem dX8_told_77 : decode cX8_told 77 = .ok (.ireturn, 1) := by decide +kernel
theorem dX8_told_78 : decode cX8_told 78 = .ok (.aload_n 0, 1) := by decide +kernel
theorem dX8_told_79 : decode cX8_told 79 = .ok (.iconst 3, 1) := by decide +kernel
theorem dX8_told_80 : decode cX8_told 80 = .ok (.iload_n 1, 1) := by decide +kernel
theorem dX8_told_81 : decode cX8_told 81 = .ok (.iadd, 1) := by decide +kernel
theorem dX8_told_82 : decode cX8_told 82 = .ok (.iconst 4, 1) := by decide +kernel
theorem dX8_told_83 : decode cX8_told 83 = .ok (.isub, 1) := by decide +kernel
theorem dX8_told_84 : decode cX8_told 84 = .ok (.iaload, 1) := by decide +kernel
theorem dX8_told_85 : decode cX8_told 85 = .ok (.ireturn, 1) := by decide +kernel
theorem dX8_ask_0 : decode cX8_ask 0 = .ok (.aload_n 0, 1) := by decide +kernel
theorem dX8_ask_1 : decode cX8_ask 1 = .ok (.iconst 0, 1) := by decide +kernel
theorem dX8_ask_2 : decode cX8_ask 2 = .ok (.putfield 58, 3) := by decide +kernel
theorem dX8_ask_5 : decode cX8_ask 5 = .ok (.iload_n 1, 1) := by decide +kernel
theorem dX8_ask_6 : decode cX8_ask 6 = .ok (.i2l, 1) := by decide +kernel
theorem dX8_ask_7 : decode cX8_ask 7 = .ok (.lconst 0, 1) := by decide +kernel
theorem dX8_ask_8 : decode cX8_ask 8 = .ok (.ldc2_w 107, 3) := by decide +kernel
theorem dX8_ask_11 : decode cX8_ask 11 = .ok (.invokestatic 61, 3) := by decide +kernel
theorem dX8_ask_14 : decode cX8_ask 14 = .ok (.ifCond .eq 14, 3) := by decide +kernel
theorem dX8_ask_17 : decode cX8_ask 17 = .ok (.aload_n 0, 1) := by decide +kernel
theorem dX8_ask_18 : decode cX8_ask 18 = .ok (.getfield 19, 3) := by decide +kernel
theorem dX8_ask_21 : decode cX8_ask 21 = .ok (.iload_n 1, 1) := by decide +kernel
theorem dX8_ask_22 : decode cX8_ask 22 = .ok (.invokestatic 139, 3) := by decide +kernel
theorem dX8_ask_25 : decode cX8_ask 25 = .ok (.goto 22, 3) := by decide +kernel
theorem dX8_ask_28 : decode cX8_ask 28 = .ok (.iload_n 1, 1) := by decide +kernel
theorem dX8_ask_29 : decode cX8_ask 29 = .ok (.bipush 10, 2) := by decide +kernel
theorem dX8_ask_31 : decode cX8_ask 31 = .ok (.if_icmp .ne 14, 3) := by decide +kernel
theorem dX8_ask_34 : decode cX8_ask 34 = .ok (.aload_n 0, 1) := by decide +kernel
theorem dX8_ask_35 : decode cX8_ask 35 = .ok (.aload_n 0, 1) := by decide +kernel
theorem dX8_ask_36 : decode cX8_ask 36 = .ok (.getfield 19, 3) := by decide +kernel
theorem dX8_ask_39 : decode cX8_ask 39 = .ok (.invokevirtual 143, 3) := by decide +kernel
theorem dX8_ask_42 : decode cX8_ask 42 = .ok (.goto 5, 3) := by decide +kernel
theorem dX8_ask_45 : decode cX8_ask 45 = .ok (.bipush (-2), 2) := by decide +kernel
theorem dX8_ask_47 : decode cX8_ask 47 = .ok (.ireturn, 1) := by decide +kernel
theorem dX8_best_0 : decode cX8_best 0 = .ok (.iconst 1, 1) := by decide +kernel
theorem dX8_best_1 : decode cX8_best 1 = .ok (.istore_n 2, 1) := by decide +kernel
theorem dX8_best_2 : decode cX8_best 2 = .ok (.iconst 0, 1) := by decide +kernel
theorem dX8_best_3 : decode cX8_best 3 = .ok (.istore_n 3, 1) := by decide +kernel
theorem dX8_best_4 : decode cX8_best 4 = .ok (.iconst 1, 1) := by decide +kernel
theorem dX8_best_5 : decode cX8_best 5 = .ok (.istore 4, 2) := by decide +kernel
theorem dX8_best_7 : decode cX8_best 7 = .ok (.iload 4, 2) := by decide +kernel
theorem dX8_best_9 : decode cX8_best 9 = .ok (.bipush 10, 2) := by decide +kernel
theorem dX8_best_11 : decode cX8_best 11 = .ok (.if_icmp .ge 92, 3) := by decide +kernel
theorem dX8_best_14 : decode cX8_best 14 = .ok (.aload_n 0, 1) := by decide +kernel
theorem dX8_best_15 : decode cX8_best 15 = .ok (.getfield 22, 3) := by decide +kernel
theorem dX8_best_18 : decode cX8_best 18 = .ok (.iload_n 1, 1) := by decide +kernel
theorem dX8_best_19 : decode cX8_best 19 = .ok (.invokestatic 65, 3) := by decide +kernel
theorem dX8_best_22 : decode cX8_best 22 = .ok (.iconst 1, 1) := by decide +kernel
theorem dX8_best_23 : decode cX8_best 23 = .ok (.iadd, 1) := by decide +kernel
theorem dX8_best_24 : decode cX8_best 24 = .ok (.iaload, 1) := by decide +kernel
theorem dX8_best_25 : decode cX8_best 25 = .ok (.istore 5, 2) := by decide +kernel
theorem dX8_best_27 : decode cX8_best 27 = .ok (.aload_n 0, 1) := by decide +kernel
theorem dX8_best_28 : decode cX8_best 28 = .ok (.getfield 22, 3) := by decide +kernel
theorem dX8_best_31 : decode cX8_best 31 = .ok (.iload_n 1, 1) := by decide +kernel
theorem dX8_best_32 : decode cX8_best 32 = .ok (.invokestatic 65, 3) := by decide +kernel
theorem dX8_best_35 : decode cX8_best 35 = .ok (.iconst 1, 1) := by decide +kernel
theorem dX8_best_36 : decode cX8_best 36 = .ok (.iadd, 1) := by decide +kernel
theorem dX8_best_37 : decode cX8_best 37 = .ok (.iload 4, 2) := by decide +kernel
theorem dX8_best_39 : decode cX8_best 39 = .ok (.iastore, 1) := by decide +kernel
theorem dX8_best_40 : decode cX8_best 40 = .ok (.aload_n 0, 1) := by decide +kernel
theorem dX8_best_41 : decode cX8_best 41 = .ok (.invokevirtual 146, 3) := by decide +kernel
theorem dX8_best_44 : decode cX8_best 44 = .ok (.istore 6, 2) := by decide +kernel
theorem dX8_best_46 : decode cX8_best 46 = .ok (.aload_n 0, 1) := by decide +kernel
theorem dX8_best_47 : decode cX8_best 47 = .ok (.getfield 22, 3) := by decide +kernel
theorem dX8_best_50 : decode cX8_best 50 = .ok (.iload_n 1, 1) := by decide +kernel
theorem dX8_best_51 : decode cX8_best 51 = .ok (.invokestatic 65, 3) := by decide +kernel
theorem dX8_best_54 : decode cX8_best 54 = .ok (.iconst 1, 1) := by decide +kernel
theorem dX8_best_55 : decode cX8_best 55 = .ok (.iadd, 1) := by decide +kernel
theorem dX8_best_56 : decode cX8_best 56 = .ok (.iload 5, 2) := by decide +kernel
theorem dX8_best_58 : decode cX8_best 58 = .ok (.iastore, 1) := by decide +kernel
theorem dX8_best_59 : decode cX8_best 59 = .ok (.iload 4, 2) := by decide +kernel
theorem dX8_best_61 : decode cX8_best 61 = .ok (.iconst 1, 1) := by decide +kernel
theorem dX8_best_62 : decode cX8_best 62 = .ok (.if_icmp .eq 9, 3) := by decide +kernel
theorem dX8_best_65 : decode cX8_best 65 = .ok (.iload 6, 2) := by decide +kernel
theorem dX8_best_67 : decode cX8_best 67 = .ok (.iload_n 3, 1) := by decide +kernel
theorem dX8_best_68 : decode cX8_best 68 = .ok (.if_icmp .ge 8, 3) := by decide +kernel
theorem dX8_best_71 : decode cX8_best 71 = .ok (.iload 4, 2) := by decide +kernel
theorem dX8_best_73 : decode cX8_best 73 = .ok (.goto 4, 3) := by decide +kernel
theorem dX8_best_76 : decode cX8_best 76 = .ok (.iload_n 2, 1) := by decide +kernel
theorem dX8_best_77 : decode cX8_best 77 = .ok (.istore_n 2, 1) := by decide +kernel
theorem dX8_best_78 : decode cX8_best 78 = .ok (.iload 4, 2) := by decide +kernel
theorem dX8_best_80 : decode cX8_best 80 = .ok (.iconst 1, 1) := by decide +kernel
theorem dX8_best_81 : decode cX8_best 81 = .ok (.if_icmp .eq 9, 3) := by decide +kernel
theorem dX8_best_84 : decode cX8_best 84 = .ok (.iload 6, 2) := by decide +kernel
theorem dX8_best_86 : decode cX8_best 86 = .ok (.iload_n 3, 1) := by decide +kernel
theorem dX8_best_87 : decode cX8_best 87 = .ok (.if_icmp .ge 8, 3) := by decide +kernel
theorem dX8_best_90 : decode cX8_best 90 = .ok (.iload 6, 2) := by decide +kernel
theorem dX8_best_92 : decode cX8_best 92 = .ok (.goto 4, 3) := by decide +kernel
theorem dX8_best_95 : decode cX8_best 95 = .ok (.iload_n 3, 1) := by decide +kernel
theorem dX8_best_96 : decode cX8_best 96 = .ok (.istore_n 3, 1) := by decide +kernel
theorem dX8_best_97 : decode cX8_best 97 = .ok (.iinc 4 1, 3) := by decide +kernel
theorem dX8_best_100 : decode cX8_best 100 = .ok (.goto (-93), 3) := by decide +kernel
theorem dX8_best_103 : decode cX8_best 103 = .ok (.iload_n 2, 1) := by decide +kernel
theorem dX8_best_104 : decode cX8_best 104 = .ok (.ireturn, 1) := by decide +kernel
theorem dX8_end_0 : decode cX8_end 0 = .ok (.aload_n 0, 1) := by decide +kernel
theorem dX8_end_1 : decode cX8_end 1 = .ok (.iconst 0, 1) := by decide +kernel
theorem dX8_end_2 : decode cX8_end 2 = .ok (.putfield 58, 3) := by decide +kernel
theorem dX8_end_5 : decode cX8_end 5 = .ok (.iload_n 1, 1) := by decide +kernel
theorem dX8_end_6 : decode cX8_end 6 = .ok (.invokestatic 149, 3) := by decide +kernel
theorem dX8_end_9 : decode cX8_end 9 = .ok (.ifCond .eq 5, 3) := by decide +kernel
theorem dX8_end_12 : decode cX8_end 12 = .ok (.iconst (-1), 1) := by decide +kernel
theorem dX8_end_13 : decode cX8_end 13 = .ok (.ireturn, 1) := by decide +kernel
theorem dX8_end_14 : decode cX8_end 14 = .ok (.iload_n 2, 1) := by decide +kernel
theorem dX8_end_15 : decode cX8_end 15 = .ok (.i2l, 1) := by decide +kernel
theorem dX8_end_16 : decode cX8_end 16 = .ok (.lconst 0, 1) := by decide +kernel
theorem dX8_end_17 : decode cX8_end 17 = .ok (.ldc2_w 153, 3) := by decide +kernel
theorem dX8_end_20 : decode cX8_end 20 = .ok (.invokestatic 61, 3) := by decide +kernel
theorem dX8_end_23 : decode cX8_end 23 = .ok (.ifCond .eq 15, 3) := by decide +kernel
theorem dX8_end_26 : decode cX8_end 26 = .ok (.aload_n 0, 1) := by decide +kernel
theorem dX8_end_27 : decode cX8_end 27 = .ok (.getfield 19, 3) := by decide +kernel
theorem dX8_end_30 : decode cX8_end 30 = .ok (.iload_n 1, 1) := by decide +kernel
theorem dX8_end_31 : decode cX8_end 31 = .ok (.invokestatic 65, 3) := by decide +kernel
theorem dX8_end_34 : decode cX8_end 34 = .ok (.iload_n 2, 1) := by decide +kernel
theorem dX8_end_35 : decode cX8_end 35 = .ok (.iadd, 1) := by decide +kernel
theorem dX8_end_36 : decode cX8_end 36 = .ok (.iaload, 1) := by decide +kernel
theorem dX8_end_37 : decode cX8_end 37 = .ok (.ireturn, 1) := by decide +kernel
theorem dX8_end_38 : decode cX8_end 38 = .ok (.iload_n 2, 1) := by decide +kernel
theorem dX8_end_39 : decode cX8_end 39 = .ok (.iconst 5, 1) := by decide +kernel
theorem dX8_end_40 : decode cX8_end 40 = .ok (.if_icmp .ne 23, 3) := by decide +kernel
theorem dX8_end_43 : decode cX8_end 43 = .ok (.aload_n 0, 1) := by decide +kernel
theorem dX8_end_44 : decode cX8_end 44 = .ok (.aload_n 0, 1) := by decide +kernel
theorem dX8_end_45 : decode cX8_end 45 = .ok (.getfield 19, 3) := by decide +kernel
theorem dX8_end_48 : decode cX8_end 48 = .ok (.iload_n 1, 1) := by decide +kernel
theorem dX8_end_49 : decode cX8_end 49 = .ok (.invokevirtual 81, 3) := by decide +kernel
theorem dX8_end_52 : decode cX8_end 52 = .ok (.ifCond .eq 7, 3) := by decide +kernel
theorem dX8_end_55 : decode cX8_end 55 = .ok (.iconst 1, 1) := by decide +kernel
theorem dX8_end_56 : decode cX8_end 56 = .ok (.goto 23, 3) := by decide +kernel
theorem dX8_end_59 : decode cX8_end 59 = .ok (.iconst 0, 1) := by decide +kernel
theorem dX8_end_60 : decode cX8_end 60 = .ok (.goto 19, 3) := by decide +kernel
theorem dX8_end_63 : decode cX8_end 63 = .ok (.iload_n 2, 1) := by decide +kernel
theorem dX8_end_64 : decode cX8_end 64 = .ok (.bipush 6, 2) := by decide +kernel
theorem dX8_end_66 : decode cX8_end 66 = .ok (.if_icmp .ne 11, 3) := by decide +kernel
theorem dX8_end_69 : decode cX8_end 69 = .ok (.aload_n 0, 1) := by decide +kernel
theorem dX8_end_70 : decode cX8_end 70 = .ok (.iload_n 1, 1) := by decide +kernel
theorem dX8_end_71 : decode cX8_end 71 = .ok (.invokevirtual 155, 3) := by decide +kernel
theorem dX8_end_74 : decode cX8_end 74 = .ok (.goto 5, 3) := by decide +kernel
theorem dX8_end_77 : decode cX8_end 77 = .ok (.bipush (-2), 2) := by decide +kernel
theorem dX8_end_79 : decode cX8_end 79 = .ok (.ireturn, 1) := by decide +kernel
theorem dX8_held_0 : decode cX8_held 0 = .ok (.aload_n 0, 1) := by decide +kernel
theorem dX8_held_1 : decode cX8_held 1 = .ok (.iconst 0, 1) := by decide +kernel
theorem dX8_held_2 : decode cX8_held 2 = .ok (.putfield 58, 3) := by decide +kernel
theorem dX8_held_5 : decode cX8_held 5 = .ok (.iload_n 1, 1) := by decide +kernel
theorem dX8_held_6 : decode cX8_held 6 = .ok (.invokestatic 149, 3) := by decide +kernel
theorem dX8_held_9 : decode cX8_held 9 = .ok (.ifCond .eq 5, 3) := by decide +kernel
theorem dX8_held_12 : decode cX8_held 12 = .ok (.iconst (-1), 1) := by decide +kernel
theorem dX8_held_13 : decode cX8_held 13 = .ok (.ireturn, 1) := by decide +kernel
theorem dX8_held_14 : decode cX8_held 14 = .ok (.iload_n 2, 1) := by decide +kernel
theorem dX8_held_15 : decode cX8_held 15 = .ok (.i2l, 1) := by decide +kernel
theorem dX8_held_16 : decode cX8_held 16 = .ok (.lconst 0, 1) := by decide +kernel
theorem dX8_held_17 : decode cX8_held 17 = .ok (.aload_n 0, 1) := by decide +kernel
theorem dX8_held_18 : decode cX8_held 18 = .ok (.getfield 19, 3) := by decide +kernel
theorem dX8_held_21 : decode cX8_held 21 = .ok (.iload_n 1, 1) := by decide +kernel
theorem dX8_held_22 : decode cX8_held 22 = .ok (.invokestatic 65, 3) := by decide +kernel
theorem dX8_held_25 : decode cX8_held 25 = .ok (.iconst 4, 1) := by decide +kernel
theorem dX8_held_26 : decode cX8_held 26 = .ok (.iadd, 1) := by decide +kernel
theorem dX8_held_27 : decode cX8_held 27 = .ok (.iaload, 1) := by decide +kernel
theorem dX8_held_28 : decode cX8_held 28 = .ok (.iconst 1, 1) := by decide +kernel
theorem dX8_held_29 : decode cX8_held 29 = .ok (.isub, 1) := by decide +kernel
theorem dX8_held_30 : decode cX8_held 30 = .ok (.i2l, 1) := by decide +kernel
theorem dX8_held_31 : decode cX8_held 31 = .ok (.invokestatic 61, 3) := by decide +kernel
theorem dX8_held_34 : decode cX8_held 34 = .ok (.ifCond .eq 19, 3) := by decide +kernel
theorem dX8_held_37 : decode cX8_held 37 = .ok (.aload_n 0, 1) := by decide +kernel
theorem dX8_held_38 : decode cX8_held 38 = .ok (.getfield 19, 3) := by decide +kernel
theorem dX8_held_41 : decode cX8_held 41 = .ok (.iload_n 1, 1) := by decide +kernel
theorem dX8_held_42 : decode cX8_held 42 = .ok (.invokestatic 65, 3) := by decide +kernel
theorem dX8_held_45 : decode cX8_held 45 = .ok (.iconst 5, 1) := by decide +kernel
theorem dX8_held_46 : decode cX8_held 46 = .ok (.iadd, 1) := by decide +kernel
theorem dX8_held_47 : decode cX8_held 47 = .ok (.iload_n 2, 1) := by decide +kernel
theorem dX8_held_48 : decode cX8_held 48 = .ok (.iadd, 1) := by decide +kernel
theorem dX8_held_49 : decode cX8_held 49 = .ok (.iaload, 1) := by decide +kernel
theorem dX8_held_50 : decode cX8_held 50 = .ok (.goto 5, 3) := by decide +kernel
theorem dX8_held_53 : decode cX8_held 53 = .ok (.bipush (-9), 2) := by decide +kernel
theorem dX8_held_55 : decode cX8_held 55 = .ok (.ireturn, 1) := by decide +kernel
theorem dX8_note_0 : decode cX8_note 0 = .ok (.aload_n 0, 1) := by decide +kernel
theorem dX8_note_1 : decode cX8_note 1 = .ok (.getfield 136, 3) := by decide +kernel
theorem dX8_note_4 : decode cX8_note 4 = .ok (.bipush 14, 2) := by decide +kernel
theorem dX8_note_6 : decode cX8_note 6 = .ok (.if_icmp .ne 43, 3) := by decide +kernel
theorem dX8_note_9 : decode cX8_note 9 = .ok (.iconst 0, 1) := by decide +kernel
theorem dX8_note_10 : decode cX8_note 10 = .ok (.istore_n 1, 1) := by decide +kernel
theorem dX8_note_11 : decode cX8_note 11 = .ok (.iload_n 1, 1) := by decide +kernel
theorem dX8_note_12 : decode cX8_note 12 = .ok (.sipush 507, 3) := by decide +kernel
theorem dX8_note_15 : decode cX8_note 15 = .ok (.if_icmp .ge 24, 3) := by decide +kernel
theorem dX8_note_18 : decode cX8_note 18 = .ok (.aload_n 0, 1) := by decide +kernel
theorem dX8_note_19 : decode cX8_note 19 = .ok (.getfield 31, 3) := by decide +kernel
theorem dX8_note_22 : decode cX8_note 22 = .ok (.iload_n 1, 1) := by decide +kernel
theorem dX8_note_23 : decode cX8_note 23 = .ok (.aload_n 0, 1) := by decide +kernel
theorem dX8_note_24 : decode cX8_note 24 = .ok (.getfield 31, 3) := by decide +kernel
theorem dX8_note_27 : decode cX8_note 27 = .ok (.iload_n 1, 1) := by decide +kernel
theorem dX8_note_28 : decode cX8_note 28 = .ok (.bipush 39, 2) := by decide +kernel
theorem dX8_note_30 : decode cX8_note 30 = .ok (.iadd, 1) := by decide +kernel
theorem dX8_note_31 : decode cX8_note 31 = .ok (.iaload, 1) := by decide +kernel
theorem dX8_note_32 : decode cX8_note 32 = .ok (.iastore, 1) := by decide +kernel
theorem dX8_note_33 : decode cX8_note 33 = .ok (.iinc 1 1, 3) := by decide +kernel
theorem dX8_note_36 : decode cX8_note 36 = .ok (.goto (-25), 3) := by decide +kernel
theorem dX8_note_39 : decode cX8_note 39 = .ok (.aload_n 0, 1) := by decide +kernel
theorem dX8_note_40 : decode cX8_note 40 = .ok (.dup, 1) := by decide +kernel
theorem dX8_note_41 : decode cX8_note 41 = .ok (.getfield 136, 3) := by decide +kernel
theorem dX8_note_44 : decode cX8_note 44 = .ok (.iconst 1, 1) := by decide +kernel
theorem dX8_note_45 : decode cX8_note 45 = .ok (.isub, 1) := by decide +kernel
theorem dX8_note_46 : decode cX8_note 46 = .ok (.putfield 136, 3) := by decide +kernel
theorem dX8_note_49 : decode cX8_note 49 = .ok (.iconst 0, 1) := by decide +kernel
theorem dX8_note_50 : decode cX8_note 50 = .ok (.istore_n 1, 1) := by decide +kernel
theorem dX8_note_51 : decode cX8_note 51 = .ok (.iload_n 1, 1) := by decide +kernel
theorem dX8_note_52 : decode cX8_note 52 = .ok (.bipush 39, 2) := by decide +kernel
theorem dX8_note_54 : decode cX8_note 54 = .ok (.if_icmp .ge 29, 3) := by decide +kernel
theorem dX8_note_57 : decode cX8_note 57 = .ok (.aload_n 0, 1) := by decide +kernel
theorem dX8_note_58 : decode cX8_note 58 = .ok (.getfield 31, 3) := by decide +kernel
theorem dX8_note_61 : decode cX8_note 61 = .ok (.bipush 39, 2) := by decide +kernel
theorem dX8_note_63 : decode cX8_note 63 = .ok (.aload_n 0, 1) := by decide +kernel
theorem dX8_note_64 : decode cX8_note 64 = .ok (.getfield 136, 3) := by decide +kernel
theorem dX8_note_67 : decode cX8_note 67 = .ok (.imul, 1) := by decide +kernel
theorem dX8_note_68 : decode cX8_note 68 = .ok (.iload_n 1, 1) := by decide +kernel
theorem dX8_note_69 : decode cX8_note 69 = .ok (.iadd, 1) := by decide +kernel
theorem dX8_note_70 : decode cX8_note 70 = .ok (.aload_n 0, 1) := by decide +kernel
theorem dX8_note_71 : decode cX8_note 71 = .ok (.getfield 19, 3) := by decide +kernel
theorem dX8_note_74 : decode cX8_note 74 = .ok (.iload_n 1, 1) := by decide +kernel
theorem dX8_note_75 : decode cX8_note 75 = .ok (.iaload, 1) := by decide +kernel
theorem dX8_note_76 : decode cX8_note 76 = .ok (.iastore, 1) := by decide +kernel
theorem dX8_note_77 : decode cX8_note 77 = .ok (.iinc 1 1, 3) := by decide +kernel
theorem dX8_note_80 : decode cX8_note 80 = .ok (.goto (-29), 3) := by decide +kernel
theorem dX8_note_83 : decode cX8_note 83 = .ok (.aload_n 0, 1) := by decide +kernel
theorem dX8_note_84 : decode cX8_note 84 = .ok (.dup, 1) := by decide +kernel
theorem dX8_note_85 : decode cX8_note 85 = .ok (.getfield 136, 3) := by decide +kernel
theorem dX8_note_88 : decode cX8_note 88 = .ok (.iconst 1, 1) := by decide +kernel
theorem dX8_note_89 : decode cX8_note 89 = .ok (.iadd, 1) := by decide +kernel
theorem dX8_note_90 : decode cX8_note 90 = .ok (.putfield 136, 3) := by decide +kernel
theorem dX8_note_93 : decode cX8_note 93 = .ok (.return_, 1) := by decide +kernel
theorem dX8_come_0 : decode cX8_come 0 = .ok (.aload_n 0, 1) := by decide +kernel
theorem dX8_come_1 : decode cX8_come 1 = .ok (.iconst 0, 1) := by decide +kernel
theorem dX8_come_2 : decode cX8_come 2 = .ok (.putfield 58, 3) := by decide +kernel
theorem dX8_come_5 : decode cX8_come 5 = .ok (.iload_n 1, 1) := by decide +kernel
theorem dX8_come_6 : decode cX8_come 6 = .ok (.invokestatic 149, 3) := by decide +kernel
theorem dX8_come_9 : decode cX8_come 9 = .ok (.ifCond .eq 5, 3) := by decide +kernel
theorem dX8_come_12 : decode cX8_come 12 = .ok (.iconst (-1), 1) := by decide +kernel
theorem dX8_come_13 : decode cX8_come 13 = .ok (.ireturn, 1) := by decide +kernel
theorem dX8_come_14 : decode cX8_come 14 = .ok (.aload_n 0, 1) := by decide +kernel
theorem dX8_come_15 : decode cX8_come 15 = .ok (.getfield 19, 3) := by decide +kernel
theorem dX8_come_18 : decode cX8_come 18 = .ok (.iload_n 1, 1) := by decide +kernel
theorem dX8_come_19 : decode cX8_come 19 = .ok (.invokestatic 123, 3) := by decide +kernel
theorem dX8_come_22 : decode cX8_come 22 = .ok (.ifCond .eq 6, 3) := by decide +kernel
theorem dX8_come_25 : decode cX8_come 25 = .ok (.bipush (-4), 2) := by decide +kernel
theorem dX8_come_27 : decode cX8_come 27 = .ok (.ireturn, 1) := by decide +kernel
theorem dX8_come_28 : decode cX8_come 28 = .ok (.aload_n 0, 1) := by decide +kernel
theorem dX8_come_29 : decode cX8_come 29 = .ok (.invokevirtual 158, 3) := by decide +kernel
theorem dX8_come_32 : decode cX8_come 32 = .ok (.aload_n 0, 1) := by decide +kernel
theorem dX8_come_33 : decode cX8_come 33 = .ok (.getfield 19, 3) := by decide +kernel
theorem dX8_come_36 : decode cX8_come 36 = .ok (.iload_n 1, 1) := by decide +kernel
theorem dX8_come_37 : decode cX8_come 37 = .ok (.iconst 0, 1) := by decide +kernel
theorem dX8_come_38 : decode cX8_come 38 = .ok (.invokestatic 126, 3) := by decide +kernel
theorem dX8_come_41 : decode cX8_come 41 = .ok (.aload_n 0, 1) := by decide +kernel
theorem dX8_come_42 : decode cX8_come 42 = .ok (.getfield 19, 3) := by decide +kernel
theorem dX8_come_45 : decode cX8_come 45 = .ok (.iload_n 1, 1) := by decide +kernel
theorem dX8_come_46 : decode cX8_come 46 = .ok (.invokestatic 65, 3) := by decide +kernel
theorem dX8_come_49 : decode cX8_come 49 = .ok (.iconst 4, 1) := by decide +kernel
theorem dX8_come_50 : decode cX8_come 50 = .ok (.iadd, 1) := by decide +kernel
theorem dX8_come_51 : decode cX8_come 51 = .ok (.iaload, 1) := by decide +kernel
theorem dX8_come_52 : decode cX8_come 52 = .ok (.ireturn, 1) := by decide +kernel
theorem dX8_pass_0 : decode cX8_pass 0 = .ok (.aload_n 0, 1) := by decide +kernel
theorem dX8_pass_1 : decode cX8_pass 1 = .ok (.iconst 0, 1) := by decide +kernel
theorem dX8_pass_2 : decode cX8_pass 2 = .ok (.putfield 58, 3) := by decide +kernel
theorem dX8_pass_5 : decode cX8_pass 5 = .ok (.iload_n 1, 1) := by decide +kernel
theorem dX8_pass_6 : decode cX8_pass 6 = .ok (.i2l, 1) := by decide +kernel
theorem dX8_pass_7 : decode cX8_pass 7 = .ok (.lconst 1, 1) := by decide +kernel
theorem dX8_pass_8 : decode cX8_pass 8 = .ok (.ldc2_w 161, 3) := by decide +kernel
theorem dX8_pass_11 : decode cX8_pass 11 = .ok (.invokestatic 61, 3) := by decide +kernel
theorem dX8_pass_14 : decode cX8_pass 14 = .ok (.ifCond .ne 6, 3) := by decide +kernel
theorem dX8_pass_17 : decode cX8_pass 17 = .ok (.bipush (-2), 2) := by decide +kernel
theorem dX8_pass_19 : decode cX8_pass 19 = .ok (.ireturn, 1) := by decide +kernel
theorem dX8_pass_20 : decode cX8_pass 20 = .ok (.aload_n 0, 1) := by decide +kernel
theorem dX8_pass_21 : decode cX8_pass 21 = .ok (.invokevirtual 158, 3) := by decide +kernel
theorem dX8_pass_24 : decode cX8_pass 24 = .ok (.iconst 0, 1) := by decide +kernel
theorem dX8_pass_25 : decode cX8_pass 25 = .ok (.istore_n 2, 1) := by decide +kernel
theorem dX8_pass_26 : decode cX8_pass 26 = .ok (.iload_n 2, 1) := by decide +kernel
theorem dX8_pass_27 : decode cX8_pass 27 = .ok (.iload_n 1, 1) := by decide +kernel
theorem dX8_pass_28 : decode cX8_pass 28 = .ok (.if_icmp .ge 17, 3) := by decide +kernel
theorem dX8_pass_31 : decode cX8_pass 31 = .ok (.aload_n 0, 1) := by decide +kernel
theorem dX8_pass_32 : decode cX8_pass 32 = .ok (.aload_n 0, 1) := by decide +kernel
theorem dX8_pass_33 : decode cX8_pass 33 = .ok (.getfield 19, 3) := by decide +kernel
theorem dX8_pass_36 : decode cX8_pass 36 = .ok (.invokevirtual 96, 3) := by decide +kernel
theorem dX8_pass_39 : decode cX8_pass 39 = .ok (.iinc 2 1, 3) := by decide +kernel
theorem dX8_pass_42 : decode cX8_pass 42 = .ok (.goto (-16), 3) := by decide +kernel
theorem dX8_pass_45 : decode cX8_pass 45 = .ok (.aload_n 0, 1) := by decide +kernel
theorem dX8_pass_46 : decode cX8_pass 46 = .ok (.getfield 19, 3) := by decide +kernel
theorem dX8_pass_49 : decode cX8_pass 49 = .ok (.iconst 3, 1) := by decide +kernel
theorem dX8_pass_50 : decode cX8_pass 50 = .ok (.iaload, 1) := by decide +kernel
theorem dX8_pass_51 : decode cX8_pass 51 = .ok (.ireturn, 1) := by decide +kernel
theorem dX8_tell_0 : decode cX8_tell 0 = .ok (.aload_n 0, 1) := by decide +kernel
theorem dX8_tell_1 : decode cX8_tell 1 = .ok (.iconst 0, 1) := by decide +kernel
theorem dX8_tell_2 : decode cX8_tell 2 = .ok (.putfield 58, 3) := by decide +kernel
theorem dX8_tell_5 : decode cX8_tell 5 = .ok (.iload_n 1, 1) := by decide +kernel
theorem dX8_tell_6 : decode cX8_tell 6 = .ok (.invokestatic 149, 3) := by decide +kernel
theorem dX8_tell_9 : decode cX8_tell 9 = .ok (.ifCond .eq 5, 3) := by decide +kernel
theorem dX8_tell_12 : decode cX8_tell 12 = .ok (.iconst (-1), 1) := by decide +kernel
theorem dX8_tell_13 : decode cX8_tell 13 = .ok (.ireturn, 1) := by decide +kernel
theorem dX8_tell_14 : decode cX8_tell 14 = .ok (.iload_n 2, 1) := by decide +kernel
theorem dX8_tell_15 : decode cX8_tell 15 = .ok (.i2l, 1) := by decide +kernel
theorem dX8_tell_16 : decode cX8_tell 16 = .ok (.lconst 0, 1) := by decide +kernel
theorem dX8_tell_17 : decode cX8_tell 17 = .ok (.ldc2_w 163, 3) := by decide +kernel
theorem dX8_tell_20 : decode cX8_tell 20 = .ok (.invokestatic 61, 3) := by decide +kernel
theorem dX8_tell_23 : decode cX8_tell 23 = .ok (.ifCond .eq 15, 3) := by decide +kernel
theorem dX8_tell_26 : decode cX8_tell 26 = .ok (.iload_n 3, 1) := by decide +kernel
theorem dX8_tell_27 : decode cX8_tell 27 = .ok (.i2l, 1) := by decide +kernel
theorem dX8_tell_28 : decode cX8_tell 28 = .ok (.lconst 1, 1) := by decide +kernel
theorem dX8_tell_29 : decode cX8_tell 29 = .ok (.ldc2_w 107, 3) := by decide +kernel
theorem dX8_tell_32 : decode cX8_tell 32 = .ok (.invokestatic 61, 3) := by decide +kernel
theorem dX8_tell_35 : decode cX8_tell 35 = .ok (.ifCond .ne 6, 3) := by decide +kernel
theorem dX8_tell_38 : decode cX8_tell 38 = .ok (.bipush (-2), 2) := by decide +kernel
theorem dX8_tell_40 : decode cX8_tell 40 = .ok (.ireturn, 1) := by decide +kernel
theorem dX8_tell_41 : decode cX8_tell 41 = .ok (.iload_n 2, 1) := by decide +kernel
theorem dX8_tell_42 : decode cX8_tell 42 = .ok (.ifCond .ne 17, 3) := by decide +kernel
theorem dX8_tell_45 : decode cX8_tell 45 = .ok (.aload_n 0, 1) := by decide +kernel
theorem dX8_tell_46 : decode cX8_tell 46 = .ok (.getfield 19, 3) := by decide +kernel
theorem dX8_tell_49 : decode cX8_tell 49 = .ok (.iload_n 1, 1) := by decide +kernel
theorem dX8_tell_50 : decode cX8_tell 50 = .ok (.invokestatic 123, 3) := by decide +kernel
theorem dX8_tell_53 : decode cX8_tell 53 = .ok (.ifCond .eq 6, 3) := by decide +kernel
theorem dX8_tell_56 : decode cX8_tell 56 = .ok (.bipush (-4), 2) := by decide +kernel
theorem dX8_tell_58 : decode cX8_tell 58 = .ok (.ireturn, 1) := by decide +kernel
theorem dX8_tell_59 : decode cX8_tell 59 = .ok (.aload_n 0, 1) := by decide +kernel
theorem dX8_tell_60 : decode cX8_tell 60 = .ok (.invokevirtual 158, 3) := by decide +kernel
theorem dX8_tell_63 : decode cX8_tell 63 = .ok (.aload_n 0, 1) := by decide +kernel
theorem dX8_tell_64 : decode cX8_tell 64 = .ok (.getfield 19, 3) := by decide +kernel
theorem dX8_tell_67 : decode cX8_tell 67 = .ok (.iload_n 1, 1) := by decide +kernel
theorem dX8_tell_68 : decode cX8_tell 68 = .ok (.invokestatic 65, 3) := by decide +kernel
theorem dX8_tell_71 : decode cX8_tell 71 = .ok (.iload_n 2, 1) := by decide +kernel
theorem dX8_tell_72 : decode cX8_tell 72 = .ok (.iadd, 1) := by decide +kernel
theorem dX8_tell_73 : decode cX8_tell 73 = .ok (.iaload, 1) := by decide +kernel
theorem dX8_tell_74 : decode cX8_tell 74 = .ok (.istore 4, 2) := by decide +kernel
theorem dX8_tell_76 : decode cX8_tell 76 = .ok (.aload_n 0, 1) := by decide +kernel
theorem dX8_tell_77 : decode cX8_tell 77 = .ok (.getfield 19, 3) := by decide +kernel
theorem dX8_tell_80 : decode cX8_tell 80 = .ok (.iload_n 1, 1) := by decide +kernel
theorem dX8_tell_81 : decode cX8_tell 81 = .ok (.invokestatic 65, 3) := by decide +kernel
theorem dX8_tell_84 : decode cX8_tell 84 = .ok (.iload_n 2, 1) := by decide +kernel
theorem dX8_tell_85 : decode cX8_tell 85 = .ok (.iadd, 1) := by decide +kernel
theorem dX8_tell_86 : decode cX8_tell 86 = .ok (.iload_n 3, 1) := by decide +kernel
theorem dX8_tell_87 : decode cX8_tell 87 = .ok (.iastore, 1) := by decide +kernel
theorem dX8_tell_88 : decode cX8_tell 88 = .ok (.iload_n 2, 1) := by decide +kernel
theorem dX8_tell_89 : decode cX8_tell 89 = .ok (.ifCond .ne 12, 3) := by decide +kernel
theorem dX8_tell_92 : decode cX8_tell 92 = .ok (.aload_n 0, 1) := by decide +kernel
theorem dX8_tell_93 : decode cX8_tell 93 = .ok (.getfield 19, 3) := by decide +kernel
theorem dX8_tell_96 : decode cX8_tell 96 = .ok (.iload_n 1, 1) := by decide +kernel
theorem dX8_tell_97 : decode cX8_tell 97 = .ok (.iload_n 3, 1) := by decide +kernel
theorem dX8_tell_98 : decode cX8_tell 98 = .ok (.invokestatic 126, 3) := by decide +kernel
theorem dX8_tell_101 : decode cX8_tell 101 = .ok (.iload 4, 2) := by decide +kernel
theorem dX8_tell_103 : decode cX8_tell 103 = .ok (.ireturn, 1) := by decide +kernel
theorem dX8_undo_0 : decode cX8_undo 0 = .ok (.aload_n 0, 1) := by decide +kernel
theorem dX8_undo_1 : decode cX8_undo 1 = .ok (.iconst 0, 1) := by decide +kernel
theorem dX8_undo_2 : decode cX8_undo 2 = .ok (.putfield 58, 3) := by decide +kernel
theorem dX8_undo_5 : decode cX8_undo 5 = .ok (.aload_n 0, 1) := by decide +kernel
theorem dX8_undo_6 : decode cX8_undo 6 = .ok (.getfield 136, 3) := by decide +kernel
theorem dX8_undo_9 : decode cX8_undo 9 = .ok (.ifCond .ne 6, 3) := by decide +kernel
theorem dX8_undo_12 : decode cX8_undo 12 = .ok (.bipush (-3), 2) := by decide +kernel
theorem dX8_undo_14 : decode cX8_undo 14 = .ok (.ireturn, 1) := by decide +kernel
theorem dX8_undo_15 : decode cX8_undo 15 = .ok (.aload_n 0, 1) := by decide +kernel
theorem dX8_undo_16 : decode cX8_undo 16 = .ok (.dup, 1) := by decide +kernel
theorem dX8_undo_17 : decode cX8_undo 17 = .ok (.getfield 136, 3) := by decide +kernel
theorem dX8_undo_20 : decode cX8_undo 20 = .ok (.iconst 1, 1) := by decide +kernel
theorem dX8_undo_21 : decode cX8_undo 21 = .ok (.isub, 1) := by decide +kernel
theorem dX8_undo_22 : decode cX8_undo 22 = .ok (.putfield 136, 3) := by decide +kernel
theorem dX8_undo_25 : decode cX8_undo 25 = .ok (.iconst 0, 1) := by decide +kernel
theorem dX8_undo_26 : decode cX8_undo 26 = .ok (.istore_n 1, 1) := by decide +kernel
theorem dX8_undo_27 : decode cX8_undo 27 = .ok (.iload_n 1, 1) := by decide +kernel
theorem dX8_undo_28 : decode cX8_undo 28 = .ok (.bipush 39, 2) := by decide +kernel
theorem dX8_undo_30 : decode cX8_undo 30 = .ok (.if_icmp .ge 29, 3) := by decide +kernel
theorem dX8_undo_33 : decode cX8_undo 33 = .ok (.aload_n 0, 1) := by decide +kernel
theorem dX8_undo_34 : decode cX8_undo 34 = .ok (.getfield 19, 3) := by decide +kernel
theorem dX8_undo_37 : decode cX8_undo 37 = .ok (.iload_n 1, 1) := by decide +kernel
theorem dX8_undo_38 : decode cX8_undo 38 = .ok (.aload_n 0, 1) := by decide +kernel
theorem dX8_undo_39 : decode cX8_undo 39 = .ok (.getfield 31, 3) := by decide +kernel
theorem dX8_undo_42 : decode cX8_undo 42 = .ok (.bipush 39, 2) := by decide +kernel
theorem dX8_undo_44 : decode cX8_undo 44 = .ok (.aload_n 0, 1) := by decide +kernel
theorem dX8_undo_45 : decode cX8_undo 45 = .ok (.getfield 136, 3) := by decide +kernel
theorem dX8_undo_48 : decode cX8_undo 48 = .ok (.imul, 1) := by decide +kernel
theorem dX8_undo_49 : decode cX8_undo 49 = .ok (.iload_n 1, 1) := by decide +kernel
theorem dX8_undo_50 : decode cX8_undo 50 = .ok (.iadd, 1) := by decide +kernel
theorem dX8_undo_51 : decode cX8_undo 51 = .ok (.iaload, 1) := by decide +kernel
theorem dX8_undo_52 : decode cX8_undo 52 = .ok (.iastore, 1) := by decide +kernel
theorem dX8_undo_53 : decode cX8_undo 53 = .ok (.iinc 1 1, 3) := by decide +kernel
theorem dX8_undo_56 : decode cX8_undo 56 = .ok (.goto (-29), 3) := by decide +kernel
theorem dX8_undo_59 : decode cX8_undo 59 = .ok (.aload_n 0, 1) := by decide +kernel
theorem dX8_undo_60 : decode cX8_undo 60 = .ok (.getfield 136, 3) := by decide +kernel
theorem dX8_undo_63 : decode cX8_undo 63 = .ok (.ireturn, 1) := by decide +kernel
theorem dX8_ahead_0 : decode cX8_ahead 0 = .ok (.aload_n 0, 1) := by decide +kernel
theorem dX8_ahead_1 : decode cX8_ahead 1 = .ok (.iconst 0, 1) := by decide +kernel
theorem dX8_ahead_2 : decode cX8_ahead 2 = .ok (.putfield 58, 3) := by decide +kernel
theorem dX8_ahead_5 : decode cX8_ahead 5 = .ok (.iload_n 1, 1) := by decide +kernel
theorem dX8_ahead_6 : decode cX8_ahead 6 = .ok (.i2l, 1) := by decide +kernel
theorem dX8_ahead_7 : decode cX8_ahead 7 = .ok (.lconst 0, 1) := by decide +kernel
theorem dX8_ahead_8 : decode cX8_ahead 8 = .ok (.ldc2_w 165, 3) := by decide +kernel
theorem dX8_ahead_11 : decode cX8_ahead 11 = .ok (.invokestatic 61, 3) := by decide +kernel
theorem dX8_ahead_14 : decode cX8_ahead 14 = .ok (.ifCond .eq 15, 3) := by decide +kernel
theorem dX8_ahead_17 : decode cX8_ahead 17 = .ok (.iload_n 2, 1) := by decide +kernel
theorem dX8_ahead_18 : decode cX8_ahead 18 = .ok (.i2l, 1) := by decide +kernel
theorem dX8_ahead_19 : decode cX8_ahead 19 = .ok (.lconst 0, 1) := by decide +kernel
theorem dX8_ahead_20 : decode cX8_ahead 20 = .ok (.ldc2_w 107, 3) := by decide +kernel
theorem dX8_ahead_23 : decode cX8_ahead 23 = .ok (.invokestatic 61, 3) := by decide +kernel
theorem dX8_ahead_26 : decode cX8_ahead 26 = .ok (.ifCond .ne 6, 3) := by decide +kernel
theorem dX8_ahead_29 : decode cX8_ahead 29 = .ok (.bipush (-2), 2) := by decide +kernel
theorem dX8_ahead_31 : decode cX8_ahead 31 = .ok (.ireturn, 1) := by decide +kernel
theorem dX8_ahead_32 : decode cX8_ahead 32 = .ok (.aload_n 0, 1) := by decide +kernel
theorem dX8_ahead_33 : decode cX8_ahead 33 = .ok (.getfield 19, 3) := by decide +kernel
theorem dX8_ahead_36 : decode cX8_ahead 36 = .ok (.aload_n 0, 1) := by decide +kernel
theorem dX8_ahead_37 : decode cX8_ahead 37 = .ok (.getfield 28, 3) := by decide +kernel
theorem dX8_ahead_40 : decode cX8_ahead 40 = .ok (.invokestatic 89, 3) := by decide +kernel
theorem dX8_ahead_43 : decode cX8_ahead 43 = .ok (.iconst 0, 1) := by decide +kernel
theorem dX8_ahead_44 : decode cX8_ahead 44 = .ok (.istore_n 3, 1) := by decide +kernel
theorem dX8_ahead_45 : decode cX8_ahead 45 = .ok (.iload_n 3, 1) := by decide +kernel
theorem dX8_ahead_46 : decode cX8_ahead 46 = .ok (.iload_n 1, 1) := by decide +kernel
theorem dX8_ahead_47 : decode cX8_ahead 47 = .ok (.if_icmp .ge 17, 3) := by decide +kernel
theorem dX8_ahead_50 : decode cX8_ahead 50 = .ok (.aload_n 0, 1) := by decide +kernel
theorem dX8_ahead_51 : decode cX8_ahead 51 = .ok (.aload_n 0, 1) := by decide +kernel
theorem dX8_ahead_52 : decode cX8_ahead 52 = .ok (.getfield 28, 3) := by decide +kernel
theorem dX8_ahead_55 : decode cX8_ahead 55 = .ok (.invokevirtual 96, 3) := by decide +kernel
theorem dX8_ahead_58 : decode cX8_ahead 58 = .ok (.iinc 3 1, 3) := by decide +kernel
theorem dX8_ahead_61 : decode cX8_ahead 61 = .ok (.goto (-16), 3) := by decide +kernel
theorem dX8_ahead_64 : decode cX8_ahead 64 = .ok (.aload_n 0, 1) := by decide +kernel
theorem dX8_ahead_65 : decode cX8_ahead 65 = .ok (.getfield 28, 3) := by decide +kernel
theorem dX8_ahead_68 : decode cX8_ahead 68 = .ok (.iload_n 2, 1) := by decide +kernel
theorem dX8_ahead_69 : decode cX8_ahead 69 = .ok (.invokestatic 139, 3) := by decide +kernel
theorem dX8_ahead_72 : decode cX8_ahead 72 = .ok (.ireturn, 1) := by decide +kernel
theorem dX8_goOver_0 : decode cX8_goOver 0 = .ok (.aload_n 0, 1) := by decide +kernel
theorem dX8_goOver_1 : decode cX8_goOver 1 = .ok (.iload_n 1, 1) := by decide +kernel
theorem dX8_goOver_2 : decode cX8_goOver 2 = .ok (.putfield 50, 3) := by decide +kernel
theorem dX8_goOver_5 : decode cX8_goOver 5 = .ok (.aload_n 0, 1) := by decide +kernel
theorem dX8_goOver_6 : decode cX8_goOver 6 = .ok (.getfield 22, 3) := by decide +kernel
theorem dX8_goOver_9 : decode cX8_goOver 9 = .ok (.aload_n 0, 1) := by decide +kernel
theorem dX8_goOver_10 : decode cX8_goOver 10 = .ok (.getfield 28, 3) := by decide +kernel
theorem dX8_goOver_13 : decode cX8_goOver 13 = .ok (.invokestatic 89, 3) := by decide +kernel
theorem dX8_goOver_16 : decode cX8_goOver 16 = .ok (.iconst 0, 1) := by decide +kernel
theorem dX8_goOver_17 : decode cX8_goOver 17 = .ok (.istore_n 3, 1) := by decide +kernel
theorem dX8_goOver_18 : decode cX8_goOver 18 = .ok (.iconst 0, 1) := by decide +kernel
theorem dX8_goOver_19 : decode cX8_goOver 19 = .ok (.istore 4, 2) := by decide +kernel
theorem dX8_goOver_21 : decode cX8_goOver 21 = .ok (.iload 4, 2) := by decide +kernel
theorem dX8_goOver_23 : decode cX8_goOver 23 = .ok (.aload_n 0, 1) := by decide +kernel
theorem dX8_goOver_24 : decode cX8_goOver 24 = .ok (.getfield 130, 3) := by decide +kernel
theorem dX8_goOver_27 : decode cX8_goOver 27 = .ok (.if_icmp .ge 82, 3) := by decide +kernel
theorem dX8_goOver_30 : decode cX8_goOver 30 = .ok (.aload_n 0, 1) := by decide +kernel
theorem dX8_goOver_31 : decode cX8_goOver 31 = .ok (.getfield 25, 3) := by decide +kernel
theorem dX8_goOver_34 : decode cX8_goOver 34 = .ok (.iload 4, 2) := by decide +kernel
theorem dX8_goOver_36 : decode cX8_goOver 36 = .ok (.iaload, 1) := by decide +kernel
theorem dX8_goOver_37 : decode cX8_goOver 37 = .ok (.bipush 9, 2) := by decide +kernel
theorem dX8_goOver_39 : decode cX8_goOver 39 = .ok (.if_icmp .le 21, 3) := by decide +kernel
theorem dX8_goOver_42 : decode cX8_goOver 42 = .ok (.iload_n 3, 1) := by decide +kernel
theorem dX8_goOver_43 : decode cX8_goOver 43 = .ok (.bipush 6, 2) := by decide +kernel
theorem dX8_goOver_45 : decode cX8_goOver 45 = .ok (.if_icmp .ge 15, 3) := by decide +kernel
theorem dX8_goOver_48 : decode cX8_goOver 48 = .ok (.iload_n 2, 1) := by decide +kernel
theorem dX8_goOver_49 : decode cX8_goOver 49 = .ok (.iload_n 3, 1) := by decide +kernel
theorem dX8_goOver_50 : decode cX8_goOver 50 = .ok (.invokestatic 69, 3) := by decide +kernel
theorem dX8_goOver_53 : decode cX8_goOver 53 = .ok (.ifCond .eq 7, 3) := by decide +kernel
theorem dX8_goOver_56 : decode cX8_goOver 56 = .ok (.iconst 1, 1) := by decide +kernel
theorem dX8_goOver_57 : decode cX8_goOver 57 = .ok (.goto 4, 3) := by decide +kernel
theorem dX8_goOver_60 : decode cX8_goOver 60 = .ok (.iconst 0, 1) := by decide +kernel
theorem dX8_goOver_61 : decode cX8_goOver 61 = .ok (.istore 5, 2) := by decide +kernel
theorem dX8_goOver_63 : decode cX8_goOver 63 = .ok (.iload_n 3, 1) := by decide +kernel
theorem dX8_goOver_64 : decode cX8_goOver 64 = .ok (.aload_n 0, 1) := by decide +kernel
theorem dX8_goOver_65 : decode cX8_goOver 65 = .ok (.getfield 25, 3) := by decide +kernel
theorem dX8_goOver_68 : decode cX8_goOver 68 = .ok (.iload 4, 2) := by decide +kernel
theorem dX8_goOver_70 : decode cX8_goOver 70 = .ok (.iaload, 1) := by decide +kernel
theorem dX8_goOver_71 : decode cX8_goOver 71 = .ok (.bipush 9, 2) := by decide +kernel
theorem dX8_goOver_73 : decode cX8_goOver 73 = .ok (.if_icmp .le 7, 3) := by decide +kernel
theorem dX8_goOver_76 : decode cX8_goOver 76 = .ok (.iconst 1, 1) := by decide +kernel
theorem dX8_goOver_77 : decode cX8_goOver 77 = .ok (.goto 4, 3) := by decide +kernel
theorem dX8_goOver_80 : decode cX8_goOver 80 = .ok (.iconst 0, 1) := by decide +kernel
theorem dX8_goOver_81 : decode cX8_goOver 81 = .ok (.iadd, 1) := by decide +kernel
theorem dX8_goOver_82 : decode cX8_goOver 82 = .ok (.istore_n 3, 1) := by decide +kernel
theorem dX8_goOver_83 : decode cX8_goOver 83 = .ok (.iload 5, 2) := by decide +kernel
theorem dX8_goOver_85 : decode cX8_goOver 85 = .ok (.ifCond .ne 18, 3) := by decide +kernel
theorem dX8_goOver_88 : decode cX8_goOver 88 = .ok (.aload_n 0, 1) := by decide +kernel
theorem dX8_goOver_89 : decode cX8_goOver 89 = .ok (.aload_n 0, 1) := by decide +kernel
theorem dX8_goOver_90 : decode cX8_goOver 90 = .ok (.getfield 28, 3) := by decide +kernel
theorem dX8_goOver_93 : decode cX8_goOver 93 = .ok (.aload_n 0, 1) := by decide +kernel
theorem dX8_goOver_94 : decode cX8_goOver 94 = .ok (.getfield 25, 3) := by decide +kernel
theorem dX8_goOver_97 : decode cX8_goOver 97 = .ok (.iload 4, 2) := by decide +kernel
theorem dX8_goOver_99 : decode cX8_goOver 99 = .ok (.iaload, 1) := by decide +kernel
theorem dX8_goOver_100 : decode cX8_goOver 100 = .ok (.invokevirtual 133, 3) := by decide +kernel
theorem dX8_goOver_103 : decode cX8_goOver 103 = .ok (.iinc 4 1, 3) := by decide +kernel
theorem dX8_goOver_106 : decode cX8_goOver 106 = .ok (.goto (-85), 3) := by decide +kernel
theorem dX8_goOver_109 : decode cX8_goOver 109 = .ok (.iload_n 1, 1) := by decide +kernel
theorem dX8_goOver_110 : decode cX8_goOver 110 = .ok (.iconst 2, 1) := by decide +kernel
theorem dX8_goOver_111 : decode cX8_goOver 111 = .ok (.invokestatic 69, 3) := by decide +kernel
theorem dX8_goOver_114 : decode cX8_goOver 114 = .ok (.ifCond .eq 13, 3) := by decide +kernel
theorem dX8_goOver_117 : decode cX8_goOver 117 = .ok (.aload_n 0, 1) := by decide +kernel
theorem dX8_goOver_118 : decode cX8_goOver 118 = .ok (.getfield 28, 3) := by decide +kernel
theorem dX8_goOver_121 : decode cX8_goOver 121 = .ok (.invokestatic 93, 3) := by decide +kernel
theorem dX8_goOver_124 : decode cX8_goOver 124 = .ok (.goto 10, 3) := by decide +kernel
theorem dX8_goOver_127 : decode cX8_goOver 127 = .ok (.aload_n 0, 1) := by decide +kernel
theorem dX8_goOver_128 : decode cX8_goOver 128 = .ok (.getfield 28, 3) := by decide +kernel
theorem dX8_goOver_131 : decode cX8_goOver 131 = .ok (.invokestatic 77, 3) := by decide +kernel
theorem dX8_goOver_134 : decode cX8_goOver 134 = .ok (.istore 4, 2) := by decide +kernel
theorem dX8_goOver_136 : decode cX8_goOver 136 = .ok (.iconst 0, 1) := by decide +kernel
theorem dX8_goOver_137 : decode cX8_goOver 137 = .ok (.istore 5, 2) := by decide +kernel
theorem dX8_goOver_139 : decode cX8_goOver 139 = .ok (.iload 5, 2) := by decide +kernel
theorem dX8_goOver_141 : decode cX8_goOver 141 = .ok (.bipush 99, 2) := by decide +kernel
theorem dX8_goOver_143 : decode cX8_goOver 143 = .ok (.if_icmp .ge 49, 3) := by decide +kernel
theorem dX8_goOver_146 : decode cX8_goOver 146 = .ok (.iload 4, 2) := by decide +kernel
theorem dX8_goOver_148 : decode cX8_goOver 148 = .ok (.ifCond .ne 44, 3) := by decide +kernel
theorem dX8_goOver_151 : decode cX8_goOver 151 = .ok (.aload_n 0, 1) := by decide +kernel
theorem dX8_goOver_152 : decode cX8_goOver 152 = .ok (.aload_n 0, 1) := by decide +kernel
theorem dX8_goOver_153 : decode cX8_goOver 153 = .ok (.getfield 28, 3) := by decide +kernel
theorem dX8_goOver_156 : decode cX8_goOver 156 = .ok (.invokevirtual 96, 3) := by decide +kernel
theorem dX8_goOver_159 : decode cX8_goOver 159 = .ok (.iload_n 1, 1) := by decide +kernel
theorem dX8_goOver_160 : decode cX8_goOver 160 = .ok (.iconst 2, 1) := by decide +kernel
theorem dX8_goOver_161 : decode cX8_goOver 161 = .ok (.invokestatic 69, 3) := by decide +kernel
theorem dX8_goOver_164 : decode cX8_goOver 164 = .ok (.ifCond .eq 13, 3) := by decide +kernel
theorem dX8_goOver_167 : decode cX8_goOver 167 = .ok (.aload_n 0, 1) := by decide +kernel
theorem dX8_goOver_168 : decode cX8_goOver 168 = .ok (.getfield 28, 3) := by decide +kernel
theorem dX8_goOver_171 : decode cX8_goOver 171 = .ok (.invokestatic 93, 3) := by decide +kernel
theorem dX8_goOver_174 : decode cX8_goOver 174 = .ok (.goto 10, 3) := by decide +kernel
theorem dX8_goOver_177 : decode cX8_goOver 177 = .ok (.aload_n 0, 1) := by decide +kernel
theorem dX8_goOver_178 : decode cX8_goOver 178 = .ok (.getfield 28, 3) := by decide +kernel
theorem dX8_goOver_181 : decode cX8_goOver 181 = .ok (.invokestatic 77, 3) := by decide +kernel
theorem dX8_goOver_184 : decode cX8_goOver 184 = .ok (.istore 4, 2) := by decide +kernel
theorem dX8_goOver_186 : decode cX8_goOver 186 = .ok (.iinc 5 1, 3) := by decide +kernel
theorem dX8_goOver_189 : decode cX8_goOver 189 = .ok (.goto (-50), 3) := by decide +kernel
theorem dX8_goOver_192 : decode cX8_goOver 192 = .ok (.aload_n 0, 1) := by decide +kernel
theorem dX8_goOver_193 : decode cX8_goOver 193 = .ok (.bipush 7, 2) := by decide +kernel
theorem dX8_goOver_195 : decode cX8_goOver 195 = .ok (.putfield 50, 3) := by decide +kernel
theorem dX8_goOver_198 : decode cX8_goOver 198 = .ok (.return_, 1) := by decide +kernel
theorem dX8_pricePlay_0 : decode cX8_pricePlay 0 = .ok (.aload_n 0, 1) := by decide +kernel
theorem dX8_pricePlay_1 : decode cX8_pricePlay 1 = .ok (.bipush 7, 2) := by decide +kernel
theorem dX8_pricePlay_3 : decode cX8_pricePlay 3 = .ok (.iconst 0, 1) := by decide +kernel
theorem dX8_pricePlay_4 : decode cX8_pricePlay 4 = .ok (.invokevirtual 167, 3) := by decide +kernel
theorem dX8_pricePlay_7 : decode cX8_pricePlay 7 = .ok (.aload_n 0, 1) := by decide +kernel
theorem dX8_pricePlay_8 : decode cX8_pricePlay 8 = .ok (.getfield 28, 3) := by decide +kernel
theorem dX8_pricePlay_11 : decode cX8_pricePlay 11 = .ok (.iconst 4, 1) := by decide +kernel
theorem dX8_pricePlay_12 : decode cX8_pricePlay 12 = .ok (.iaload, 1) := by decide +kernel
theorem dX8_pricePlay_13 : decode cX8_pricePlay 13 = .ok (.aload_n 0, 1) := by decide +kernel
theorem dX8_pricePlay_14 : decode cX8_pricePlay 14 = .ok (.getfield 28, 3) := by decide +kernel
theorem dX8_pricePlay_17 : decode cX8_pricePlay 17 = .ok (.bipush 6, 2) := by decide +kernel
theorem dX8_pricePlay_19 : decode cX8_pricePlay 19 = .ok (.iaload, 1) := by decide +kernel
theorem dX8_pricePlay_20 : decode cX8_pricePlay 20 = .ok (.iadd, 1) := by decide +kernel
theorem dX8_pricePlay_21 : decode cX8_pricePlay 21 = .ok (.bipush 20, 2) := by decide +kernel
theorem dX8_pricePlay_23 : decode cX8_pricePlay 23 = .ok (.aload_n 0, 1) := by decide +kernel
theorem dX8_pricePlay_24 : decode cX8_pricePlay 24 = .ok (.getfield 28, 3) := by decide +kernel
theorem dX8_pricePlay_27 : decode cX8_pricePlay 27 = .ok (.bipush 8, 2) := by decide +kernel
theorem dX8_pricePlay_29 : decode cX8_pricePlay 29 = .ok (.iaload, 1) := by decide +kernel
theorem dX8_pricePlay_30 : decode cX8_pricePlay 30 = .ok (.imul, 1) := by decide +kernel
theorem dX8_pricePlay_31 : decode cX8_pricePlay 31 = .ok (.iadd, 1) := by decide +kernel
theorem dX8_pricePlay_32 : decode cX8_pricePlay 32 = .ok (.ireturn, 1) := by decide +kernel
theorem dX8_letters_0 : decode cX8_letters 0 = .ok (.iconst 0, 1) := by decide +kernel
theorem dX8_letters_1 : decode cX8_letters 1 = .ok (.istore_n 1, 1) := by decide +kernel
theorem dX8_letters_2 : decode cX8_letters 2 = .ok (.iconst 0, 1) := by decide +kernel
theorem dX8_letters_3 : decode cX8_letters 3 = .ok (.istore_n 2, 1) := by decide +kernel
theorem dX8_letters_4 : decode cX8_letters 4 = .ok (.iload_n 2, 1) := by decide +kernel
theorem dX8_letters_5 : decode cX8_letters 5 = .ok (.aload_n 0, 1) := by decide +kernel
theorem dX8_letters_6 : decode cX8_letters 6 = .ok (.getfield 130, 3) := by decide +kernel
theorem dX8_letters_9 : decode cX8_letters 9 = .ok (.if_icmp .ge 28, 3) := by decide +kernel
theorem dX8_letters_12 : decode cX8_letters 12 = .ok (.iload_n 1, 1) := by decide +kernel
theorem dX8_letters_13 : decode cX8_letters 13 = .ok (.aload_n 0, 1) := by decide +kernel
theorem dX8_letters_14 : decode cX8_letters 14 = .ok (.getfield 25, 3) := by decide +kernel
theorem dX8_letters_17 : decode cX8_letters 17 = .ok (.iload_n 2, 1) := by decide +kernel
theorem dX8_letters_18 : decode cX8_letters 18 = .ok (.iaload, 1) := by decide +kernel
theorem dX8_letters_19 : decode cX8_letters 19 = .ok (.bipush 9, 2) := by decide +kernel
theorem dX8_letters_21 : decode cX8_letters 21 = .ok (.if_icmp .le 7, 3) := by decide +kernel
theorem dX8_letters_24 : decode cX8_letters 24 = .ok (.iconst 1, 1) := by decide +kernel
theorem dX8_letters_25 : decode cX8_letters 25 = .ok (.goto 4, 3) := by decide +kernel
theorem dX8_letters_28 : decode cX8_letters 28 = .ok (.iconst 0, 1) := by decide +kernel
theorem dX8_letters_29 : decode cX8_letters 29 = .ok (.iadd, 1) := by decide +kernel
theorem dX8_letters_30 : decode cX8_letters 30 = .ok (.istore_n 1, 1) := by decide +kernel
theorem dX8_letters_31 : decode cX8_letters 31 = .ok (.iinc 2 1, 3) := by decide +kernel
theorem dX8_letters_34 : decode cX8_letters 34 = .ok (.goto (-30), 3) := by decide +kernel
theorem dX8_letters_37 : decode cX8_letters 37 = .ok (.iload_n 1, 1) := by decide +kernel
theorem dX8_letters_38 : decode cX8_letters 38 = .ok (.ireturn, 1) := by decide +kernel
theorem dX8_play_0 : decode cX8_play 0 = .ok (.aload_n 0, 1) := by decide +kernel
theorem dX8_play_1 : decode cX8_play 1 = .ok (.iconst 0, 1) := by decide +kernel
theorem dX8_play_2 : decode cX8_play 2 = .ok (.putfield 58, 3) := by decide +kernel
theorem dX8_play_5 : decode cX8_play 5 = .ok (.aload_n 0, 1) := by decide +kernel
theorem dX8_play_6 : decode cX8_play 6 = .ok (.invokevirtual 146, 3) := by decide +kernel
theorem dX8_play_9 : decode cX8_play 9 = .ok (.istore_n 2, 1) := by decide +kernel
theorem dX8_play_10 : decode cX8_play 10 = .ok (.iload_n 1, 1) := by decide +kernel
theorem dX8_play_11 : decode cX8_play 11 = .ok (.tableswitch 74 0 5 #[37, 39, 46, 54, 62, 69], 37) := by decide +kernel
theorem dX8_play_48 : decode cX8_play 48 = .ok (.iload_n 2, 1) := by decide +kernel
theorem dX8_play_49 : decode cX8_play 49 = .ok (.ireturn, 1) := by decide +kernel
theorem dX8_play_50 : decode cX8_play 50 = .ok (.aload_n 0, 1) := by decide +kernel
theorem dX8_play_51 : decode cX8_play 51 = .ok (.getfield 28, 3) := by decide +kernel
theorem dX8_play_54 : decode cX8_play 54 = .ok (.iconst 4, 1) := by decide +kernel
theorem dX8_play_55 : decode cX8_play 55 = .ok (.iaload, 1) := by decide +kernel
theorem dX8_play_56 : decode cX8_play 56 = .ok (.ireturn, 1) := by decide +kernel
theorem dX8_play_57 : decode cX8_play 57 = .ok (.aload_n 0, 1) := by decide +kernel
theorem dX8_play_58 : decode cX8_play 58 = .ok (.getfield 28, 3) := by decide +kernel
theorem dX8_play_61 : decode cX8_play 61 = .ok (.bipush 6, 2) := by decide +kernel
theorem dX8_play_63 : decode cX8_play 63 = .ok (.iaload, 1) := by decide +kernel
theorem dX8_play_64 : decode cX8_play 64 = .ok (.ireturn, 1) := by decide +kernel
theorem dX8_play_65 : decode cX8_play 65 = .ok (.aload_n 0, 1) := by decide +kernel
theorem dX8_play_66 : decode cX8_play 66 = .ok (.getfield 28, 3) := by decide +kernel
theorem dX8_play_69 : decode cX8_play 69 = .ok (.bipush 8, 2) := by decide +kernel
theorem dX8_play_71 : decode cX8_play 71 = .ok (.iaload, 1) := by decide +kernel
theorem dX8_play_72 : decode cX8_play 72 = .ok (.ireturn, 1) := by decide +kernel
theorem dX8_play_73 : decode cX8_play 73 = .ok (.aload_n 0, 1) := by decide +kernel
theorem dX8_play_74 : decode cX8_play 74 = .ok (.getfield 28, 3) := by decide +kernel
theorem dX8_play_77 : decode cX8_play 77 = .ok (.iconst 3, 1) := by decide +kernel
theorem dX8_play_78 : decode cX8_play 78 = .ok (.iaload, 1) := by decide +kernel
theorem dX8_play_79 : decode cX8_play 79 = .ok (.ireturn, 1) := by decide +kernel
theorem dX8_play_80 : decode cX8_play 80 = .ok (.aload_n 0, 1) := by decide +kernel
theorem dX8_play_81 : decode cX8_play 81 = .ok (.invokevirtual 171, 3) := by decide +kernel
theorem dX8_play_84 : decode cX8_play 84 = .ok (.ireturn, 1) := by decide +kernel
theorem dX8_play_85 : decode cX8_play 85 = .ok (.bipush (-2), 2) := by decide +kernel
theorem dX8_play_87 : decode cX8_play 87 = .ok (.ireturn, 1) := by decide +kernel
theorem dX8_does_0 : decode cX8_does 0 = .ok (.bipush 10, 2) := by decide +kernel
theorem dX8_does_2 : decode cX8_does 2 = .ok (.iload_n 2, 1) := by decide +kernel
theorem dX8_does_3 : decode cX8_does 3 = .ok (.imul, 1) := by decide +kernel
theorem dX8_does_4 : decode cX8_does 4 = .ok (.iload_n 3, 1) := by decide +kernel
theorem dX8_does_5 : decode cX8_does 5 = .ok (.iadd, 1) := by decide +kernel
theorem dX8_does_6 : decode cX8_does 6 = .ok (.istore 4, 2) := by decide +kernel
theorem dX8_does_8 : decode cX8_does 8 = .ok (.iload_n 2, 1) := by decide +kernel
theorem dX8_does_9 : decode cX8_does 9 = .ok (.invokestatic 149, 3) := by decide +kernel
theorem dX8_does_12 : decode cX8_does 12 = .ok (.ifCond .ne 7, 3) := by decide +kernel
theorem dX8_does_15 : decode cX8_does 15 = .ok (.iconst 1, 1) := by decide +kernel
theorem dX8_does_16 : decode cX8_does 16 = .ok (.goto 4, 3) := by decide +kernel
theorem dX8_does_19 : decode cX8_does 19 = .ok (.iconst 0, 1) := by decide +kernel
theorem dX8_does_20 : decode cX8_does 20 = .ok (.istore 5, 2) := by decide +kernel
theorem dX8_does_22 : decode cX8_does 22 = .ok (.iload_n 1, 1) := by decide +kernel
theorem dX8_does_23 : decode cX8_does 23 = .ok (.tableswitch 242 1 7 #[41, 74, 116, 136, 162, 200, 217], 41) := by decide +kernel
theorem dX8_does_64 : decode cX8_does 64 = .ok (.iload 5, 2) := by decide +kernel
theorem dX8_does_66 : decode cX8_does 66 = .ok (.ifCond .eq 18, 3) := by decide +kernel
theorem dX8_does_69 : decode cX8_does 69 = .ok (.iload_n 3, 1) := by decide +kernel
theorem dX8_does_70 : decode cX8_does 70 = .ok (.ifCond .ne 14, 3) := by decide +kernel
theorem dX8_does_73 : decode cX8_does 73 = .ok (.aload_n 0, 1) := by decide +kernel
theorem dX8_does_74 : decode cX8_does 74 = .ok (.getfield 28, 3) := by decide +kernel
theorem dX8_does_77 : decode cX8_does 77 = .ok (.iload_n 2, 1) := by decide +kernel
theorem dX8_does_78 : decode cX8_does 78 = .ok (.invokestatic 123, 3) := by decide +kernel
theorem dX8_does_81 : decode cX8_does 81 = .ok (.ifCond .eq 5, 3) := by decide +kernel
theorem dX8_does_84 : decode cX8_does 84 = .ok (.iconst 0, 1) := by decide +kernel
theorem dX8_does_85 : decode cX8_does 85 = .ok (.ireturn, 1) := by decide +kernel
theorem dX8_does_86 : decode cX8_does 86 = .ok (.aload_n 0, 1) := by decide +kernel
theorem dX8_does_87 : decode cX8_does 87 = .ok (.getfield 28, 3) := by decide +kernel
theorem dX8_does_90 : decode cX8_does 90 = .ok (.iload_n 2, 1) := by decide +kernel
theorem dX8_does_91 : decode cX8_does 91 = .ok (.iconst 0, 1) := by decide +kernel
theorem dX8_does_92 : decode cX8_does 92 = .ok (.invokestatic 126, 3) := by decide +kernel
theorem dX8_does_95 : decode cX8_does 95 = .ok (.iconst 1, 1) := by decide +kernel
theorem dX8_does_96 : decode cX8_does 96 = .ok (.ireturn, 1) := by decide +kernel
theorem dX8_does_97 : decode cX8_does 97 = .ok (.iconst 0, 1) := by decide +kernel
theorem dX8_does_98 : decode cX8_does 98 = .ok (.istore 6, 2) := by decide +kernel
theorem dX8_does_100 : decode cX8_does 100 = .ok (.iload 6, 2) := by decide +kernel
theorem dX8_does_102 : decode cX8_does 102 = .ok (.iload 4, 2) := by decide +kernel
theorem dX8_does_104 : decode cX8_does 104 = .ok (.if_icmp .ge 24, 3) := by decide +kernel
theorem dX8_does_107 : decode cX8_does 107 = .ok (.iload 4, 2) := by decide +kernel
theorem dX8_does_109 : decode cX8_does 109 = .ok (.bipush 21, 2) := by decide +kernel
theorem dX8_does_111 : decode cX8_does 111 = .ok (.if_icmp .ge 17, 3) := by decide +kernel
theorem dX8_does_114 : decode cX8_does 114 = .ok (.aload_n 0, 1) := by decide +kernel
theorem dX8_does_115 : decode cX8_does 115 = .ok (.aload_n 0, 1) := by decide +kernel
theorem dX8_does_116 : decode cX8_does 116 = .ok (.getfield 28, 3) := by decide +kernel
theorem dX8_does_119 : decode cX8_does 119 = .ok (.invokevirtual 96, 3) := by decide +kernel
theorem dX8_does_122 : decode cX8_does 122 = .ok (.iinc 6 1, 3) := by decide +kernel
theorem dX8_does_125 : decode cX8_does 125 = .ok (.goto (-25), 3) := by decide +kernel
theorem dX8_does_128 : decode cX8_does 128 = .ok (.iload 4, 2) := by decide +kernel
theorem dX8_does_130 : decode cX8_does 130 = .ok (.i2l, 1) := by decide +kernel
theorem dX8_does_131 : decode cX8_does 131 = .ok (.lconst 1, 1) := by decide +kernel
theorem dX8_does_132 : decode cX8_does 132 = .ok (.ldc2_w 161, 3) := by decide +kernel
theorem dX8_does_135 : decode cX8_does 135 = .ok (.invokestatic 61, 3) := by decide +kernel
theorem dX8_does_138 : decode cX8_does 138 = .ok (.ireturn, 1) := by decide +kernel
theorem dX8_does_139 : decode cX8_does 139 = .ok (.iload_n 2, 1) := by decide +kernel
theorem dX8_does_140 : decode cX8_does 140 = .ok (.ifCond .ne 17, 3) := by decide +kernel
theorem dX8_does_143 : decode cX8_does 143 = .ok (.aload_n 0, 1) := by decide +kernel
theorem dX8_does_144 : decode cX8_does 144 = .ok (.getfield 28, 3) := by decide +kernel
theorem dX8_does_147 : decode cX8_does 147 = .ok (.iconst 0, 1) := by decide +kernel
theorem dX8_does_148 : decode cX8_does 148 = .ok (.iaload, 1) := by decide +kernel
theorem dX8_does_149 : decode cX8_does 149 = .ok (.iload_n 3, 1) := by decide +kernel
theorem dX8_does_150 : decode cX8_does 150 = .ok (.if_icmp .ne 7, 3) := by decide +kernel
theorem dX8_does_153 : decode cX8_does 153 = .ok (.iconst 1, 1) := by decide +kernel
theorem dX8_does_154 : decode cX8_does 154 = .ok (.goto 4, 3) := by decide +kernel
theorem dX8_does_157 : decode cX8_does 157 = .ok (.iconst 0, 1) := by decide +kernel
theorem dX8_does_158 : decode cX8_does 158 = .ok (.ireturn, 1) := by decide +kernel
theorem dX8_does_159 : decode cX8_does 159 = .ok (.iload 5, 2) := by decide +kernel
theorem dX8_does_161 : decode cX8_does 161 = .ok (.ifCond .eq 22, 3) := by decide +kernel
theorem dX8_does_164 : decode cX8_does 164 = .ok (.aload_n 0, 1) := by decide +kernel
theorem dX8_does_165 : decode cX8_does 165 = .ok (.getfield 28, 3) := by decide +kernel
theorem dX8_does_168 : decode cX8_does 168 = .ok (.iload_n 2, 1) := by decide +kernel
theorem dX8_does_169 : decode cX8_does 169 = .ok (.invokestatic 65, 3) := by decide +kernel
theorem dX8_does_172 : decode cX8_does 172 = .ok (.iconst 4, 1) := by decide +kernel
theorem dX8_does_173 : decode cX8_does 173 = .ok (.iadd, 1) := by decide +kernel
theorem dX8_does_174 : decode cX8_does 174 = .ok (.iaload, 1) := by decide +kernel
theorem dX8_does_175 : decode cX8_does 175 = .ok (.iload_n 3, 1) := by decide +kernel
theorem dX8_does_176 : decode cX8_does 176 = .ok (.if_icmp .ne 7, 3) := by decide +kernel
theorem dX8_does_179 : decode cX8_does 179 = .ok (.iconst 1, 1) := by decide +kernel
theorem dX8_does_180 : decode cX8_does 180 = .ok (.goto 4, 3) := by decide +kernel
theorem dX8_does_183 : decode cX8_does 183 = .ok (.iconst 0, 1) := by decide +kernel
theorem dX8_does_184 : decode cX8_does 184 = .ok (.ireturn, 1) := by decide +kernel
theorem dX8_does_185 : decode cX8_does 185 = .ok (.iload 5, 2) := by decide +kernel
theorem dX8_does_187 : decode cX8_does 187 = .ok (.ifCond .eq 34, 3) := by decide +kernel
theorem dX8_does_190 : decode cX8_does 190 = .ok (.iload_n 3, 1) := by decide +kernel
theorem dX8_does_191 : decode cX8_does 191 = .ok (.iconst 2, 1) := by decide +kernel
theorem dX8_does_192 : decode cX8_does 192 = .ok (.if_icmp .ge 29, 3) := by decide +kernel
theorem dX8_does_195 : decode cX8_does 195 = .ok (.aload_n 0, 1) := by decide +kernel
theorem dX8_does_196 : decode cX8_does 196 = .ok (.aload_n 0, 1) := by decide +kernel
theorem dX8_does_197 : decode cX8_does 197 = .ok (.getfield 28, 3) := by decide +kernel
theorem dX8_does_200 : decode cX8_does 200 = .ok (.iload_n 2, 1) := by decide +kernel
theorem dX8_does_201 : decode cX8_does 201 = .ok (.invokevirtual 81, 3) := by decide +kernel
theorem dX8_does_204 : decode cX8_does 204 = .ok (.iload_n 3, 1) := by decide +kernel
theorem dX8_does_205 : decode cX8_does 205 = .ok (.iconst 1, 1) := by decide +kernel
theorem dX8_does_206 : decode cX8_does 206 = .ok (.if_icmp .ne 7, 3) := by decide +kernel
theorem dX8_does_209 : decode cX8_does 209 = .ok (.iconst 1, 1) := by decide +kernel
theorem dX8_does_210 : decode cX8_does 210 = .ok (.goto 4, 3) := by decide +kernel
theorem dX8_does_213 : decode cX8_does 213 = .ok (.iconst 0, 1) := by decide +kernel
theorem dX8_does_214 : decode cX8_does 214 = .ok (.if_icmp .ne 7, 3) := by decide +kernel
theorem dX8_does_217 : decode cX8_does 217 = .ok (.iconst 1, 1) := by decide +kernel
theorem dX8_does_218 : decode cX8_does 218 = .ok (.goto 4, 3) := by decide +kernel
theorem dX8_does_221 : decode cX8_does 221 = .ok (.iconst 0, 1) := by decide +kernel
theorem dX8_does_222 : decode cX8_does 222 = .ok (.ireturn, 1) := by decide +kernel
theorem dX8_does_223 : decode cX8_does 223 = .ok (.aload_n 0, 1) := by decide +kernel
theorem dX8_does_224 : decode cX8_does 224 = .ok (.getfield 28, 3) := by decide +kernel
theorem dX8_does_227 : decode cX8_does 227 = .ok (.iconst 5, 1) := by decide +kernel
theorem dX8_does_228 : decode cX8_does 228 = .ok (.iaload, 1) := by decide +kernel
theorem dX8_does_229 : decode cX8_does 229 = .ok (.iload 4, 2) := by decide +kernel
theorem dX8_does_231 : decode cX8_does 231 = .ok (.if_icmp .ne 7, 3) := by decide +kernel
theorem dX8_does_234 : decode cX8_does 234 = .ok (.iconst 1, 1) := by decide +kernel
theorem dX8_does_235 : decode cX8_does 235 = .ok (.goto 4, 3) := by decide +kernel
theorem dX8_does_238 : decode cX8_does 238 = .ok (.iconst 0, 1) := by decide +kernel
theorem dX8_does_239 : decode cX8_does 239 = .ok (.ireturn, 1) := by decide +kernel
theorem dX8_does_240 : decode cX8_does 240 = .ok (.iload 5, 2) := by decide +kernel
theorem dX8_does_242 : decode cX8_does 242 = .ok (.ifCond .eq 7, 3) := by decide +kernel
theorem dX8_does_245 : decode cX8_does 245 = .ok (.iload_n 3, 1) := by decide +kernel
theorem dX8_does_246 : decode cX8_does 246 = .ok (.ifCond .ne 5, 3) := by decide +kernel
theorem dX8_does_249 : decode cX8_does 249 = .ok (.iconst 0, 1) := by decide +kernel
theorem dX8_does_250 : decode cX8_does 250 = .ok (.ireturn, 1) := by decide +kernel
theorem dX8_does_251 : decode cX8_does 251 = .ok (.aload_n 0, 1) := by decide +kernel
theorem dX8_does_252 : decode cX8_does 252 = .ok (.getfield 28, 3) := by decide +kernel
theorem dX8_does_255 : decode cX8_does 255 = .ok (.iload_n 2, 1) := by decide +kernel
theorem dX8_does_256 : decode cX8_does 256 = .ok (.invokestatic 65, 3) := by decide +kernel
theorem dX8_does_259 : decode cX8_does 259 = .ok (.iconst 1, 1) := by decide +kernel
theorem dX8_does_260 : decode cX8_does 260 = .ok (.iadd, 1) := by decide +kernel
theorem dX8_does_261 : decode cX8_does 261 = .ok (.iload_n 3, 1) := by decide +kernel
theorem dX8_does_262 : decode cX8_does 262 = .ok (.iastore, 1) := by decide +kernel
theorem dX8_does_263 : decode cX8_does 263 = .ok (.iconst 1, 1) := by decide +kernel
theorem dX8_does_264 : decode cX8_does 264 = .ok (.ireturn, 1) := by decide +kernel
theorem dX8_does_265 : decode cX8_does 265 = .ok (.iconst 0, 1) := by decide +kernel
theorem dX8_does_266 : decode cX8_does 266 = .ok (.ireturn, 1) := by decide +kernel
theorem dX8_longPower_0 : decode cX8_longPower 0 = .ok (.lconst 1, 1) := by decide +kernel
theorem dX8_longPower_1 : decode cX8_longPower 1 = .ok (.lstore_n 3, 1) := by decide +kernel
theorem dX8_longPower_2 : decode cX8_longPower 2 = .ok (.iconst 0, 1) := by decide +kernel
theorem dX8_longPower_3 : decode cX8_longPower 3 = .ok (.istore 5, 2) := by decide +kernel
theorem dX8_longPower_5 : decode cX8_longPower 5 = .ok (.iload 5, 2) := by decide +kernel
theorem dX8_longPower_7 : decode cX8_longPower 7 = .ok (.iload_n 2, 1) := by decide +kernel
theorem dX8_longPower_8 : decode cX8_longPower 8 = .ok (.if_icmp .ge 13, 3) := by decide +kernel
theorem dX8_longPower_11 : decode cX8_longPower 11 = .ok (.lload_n 3, 1) := by decide +kernel
theorem dX8_longPower_12 : decode cX8_longPower 12 = .ok (.lload_n 0, 1) := by decide +kernel
theorem dX8_longPower_13 : decode cX8_longPower 13 = .ok (.lmul, 1) := by decide +kernel
theorem dX8_longPower_14 : decode cX8_longPower 14 = .ok (.lstore_n 3, 1) := by decide +kernel
theorem dX8_longPower_15 : decode cX8_longPower 15 = .ok (.iinc 5 1, 3) := by decide +kernel
theorem dX8_longPower_18 : decode cX8_longPower 18 = .ok (.goto (-13), 3) := by decide +kernel
theorem dX8_longPower_21 : decode cX8_longPower 21 = .ok (.lload_n 3, 1) := by decide +kernel
theorem dX8_longPower_22 : decode cX8_longPower 22 = .ok (.lreturn, 1) := by decide +kernel
theorem dX8_judge_0 : decode cX8_judge 0 = .ok (.aload_n 0, 1) := by decide +kernel
theorem dX8_judge_1 : decode cX8_judge 1 = .ok (.iconst 0, 1) := by decide +kernel
theorem dX8_judge_2 : decode cX8_judge 2 = .ok (.putfield 58, 3) := by decide +kernel
theorem dX8_judge_5 : decode cX8_judge 5 = .ok (.iload_n 1, 1) := by decide +kernel
theorem dX8_judge_6 : decode cX8_judge 6 = .ok (.i2l, 1) := by decide +kernel
theorem dX8_judge_7 : decode cX8_judge 7 = .ok (.lconst 1, 1) := by decide +kernel
theorem dX8_judge_8 : decode cX8_judge 8 = .ok (.ldc2_w 153, 3) := by decide +kernel
theorem dX8_judge_11 : decode cX8_judge 11 = .ok (.invokestatic 61, 3) := by decide +kernel
theorem dX8_judge_14 : decode cX8_judge 14 = .ok (.ifCond .eq 20, 3) := by decide +kernel
theorem dX8_judge_17 : decode cX8_judge 17 = .ok (.lload_n 2, 1) := by decide +kernel
theorem dX8_judge_18 : decode cX8_judge 18 = .ok (.lconst 0, 1) := by decide +kernel
theorem dX8_judge_19 : decode cX8_judge 19 = .ok (.ldc2_w 174, 3) := by decide +kernel
theorem dX8_judge_22 : decode cX8_judge 22 = .ok (.iload_n 1, 1) := by decide +kernel
theorem dX8_judge_23 : decode cX8_judge 23 = .ok (.invokestatic 176, 3) := by decide +kernel
theorem dX8_judge_26 : decode cX8_judge 26 = .ok (.lconst 1, 1) := by decide +kernel
theorem dX8_judge_27 : decode cX8_judge 27 = .ok (.lsub, 1) := by decide +kernel
theorem dX8_judge_28 : decode cX8_judge 28 = .ok (.invokestatic 61, 3) := by decide +kernel
theorem dX8_judge_31 : decode cX8_judge 31 = .ok (.ifCond .ne 6, 3) := by decide +kernel
theorem dX8_judge_34 : decode cX8_judge 34 = .ok (.bipush (-2), 2) := by decide +kernel
theorem dX8_judge_36 : decode cX8_judge 36 = .ok (.ireturn, 1) := by decide +kernel
theorem dX8_judge_37 : decode cX8_judge 37 = .ok (.aload_n 0, 1) := by decide +kernel
theorem dX8_judge_38 : decode cX8_judge 38 = .ok (.getfield 19, 3) := by decide +kernel
theorem dX8_judge_41 : decode cX8_judge 41 = .ok (.aload_n 0, 1) := by decide +kernel
theorem dX8_judge_42 : decode cX8_judge 42 = .ok (.getfield 28, 3) := by decide +kernel
theorem dX8_judge_45 : decode cX8_judge 45 = .ok (.invokestatic 89, 3) := by decide +kernel
theorem dX8_judge_48 : decode cX8_judge 48 = .ok (.iconst 0, 1) := by decide +kernel
theorem dX8_judge_49 : decode cX8_judge 49 = .ok (.istore 4, 2) := by decide +kernel
theorem dX8_judge_51 : decode cX8_judge 51 = .ok (.iload 4, 2) := by decide +kernel
theorem dX8_judge_53 : decode cX8_judge 53 = .ok (.iload_n 1, 1) := by decide +kernel
theorem dX8_judge_54 : decode cX8_judge 54 = .ok (.if_icmp .ge 58, 3) := by decide +kernel
theorem dX8_judge_57 : decode cX8_judge 57 = .ok (.lload_n 2, 1) := by decide +kernel
theorem dX8_judge_58 : decode cX8_judge 58 = .ok (.ldc2_w 174, 3) := by decide +kernel
theorem dX8_judge_61 : decode cX8_judge 61 = .ok (.iload_n 1, 1) := by decide +kernel
theorem dX8_judge_62 : decode cX8_judge 62 = .ok (.iconst 1, 1) := by decide +kernel
theorem dX8_judge_63 : decode cX8_judge 63 = .ok (.isub, 1) := by decide +kernel
theorem dX8_judge_64 : decode cX8_judge 64 = .ok (.iload 4, 2) := by decide +kernel
theorem dX8_judge_66 : decode cX8_judge 66 = .ok (.isub, 1) := by decide +kernel
theorem dX8_judge_67 : decode cX8_judge 67 = .ok (.invokestatic 176, 3) := by decide +kernel
theorem dX8_judge_70 : decode cX8_judge 70 = .ok (.ldiv, 1) := by decide +kernel
theorem dX8_judge_71 : decode cX8_judge 71 = .ok (.ldc2_w 174, 3) := by decide +kernel
theorem dX8_judge_74 : decode cX8_judge 74 = .ok (.lrem, 1) := by decide +kernel
theorem dX8_judge_75 : decode cX8_judge 75 = .ok (.l2i, 1) := by decide +kernel
theorem dX8_judge_76 : decode cX8_judge 76 = .ok (.istore 5, 2) := by decide +kernel
theorem dX8_judge_78 : decode cX8_judge 78 = .ok (.aload_n 0, 1) := by decide +kernel
theorem dX8_judge_79 : decode cX8_judge 79 = .ok (.iload 5, 2) := by decide +kernel
theorem dX8_judge_81 : decode cX8_judge 81 = .ok (.bipush 100, 2) := by decide +kernel
theorem dX8_judge_83 : decode cX8_judge 83 = .ok (.idiv, 1) := by decide +kernel
theorem dX8_judge_84 : decode cX8_judge 84 = .ok (.iload 5, 2) := by decide +kernel
theorem dX8_judge_86 : decode cX8_judge 86 = .ok (.bipush 10, 2) := by decide +kernel
theorem dX8_judge_88 : decode cX8_judge 88 = .ok (.idiv, 1) := by decide +kernel
theorem dX8_judge_89 : decode cX8_judge 89 = .ok (.bipush 10, 2) := by decide +kernel
theorem dX8_judge_91 : decode cX8_judge 91 = .ok (.irem, 1) := by decide +kernel
theorem dX8_judge_92 : decode cX8_judge 92 = .ok (.iload 5, 2) := by decide +kernel
theorem dX8_judge_94 : decode cX8_judge 94 = .ok (.bipush 10, 2) := by decide +kernel
theorem dX8_judge_96 : decode cX8_judge 96 = .ok (.irem, 1) := by decide +kernel
theorem dX8_judge_97 : decode cX8_judge 97 = .ok (.invokevirtual 180, 3) := by decide +kernel
theorem dX8_judge_100 : decode cX8_judge 100 = .ok (.ifCond .ne 6, 3) := by decide +kernel
theorem dX8_judge_103 : decode cX8_judge 103 = .ok (.iload 4, 2) := by decide +kernel
theorem dX8_judge_105 : decode cX8_judge 105 = .ok (.ireturn, 1) := by decide +kernel
theorem dX8_judge_106 : decode cX8_judge 106 = .ok (.iinc 4 1, 3) := by decide +kernel
theorem dX8_judge_109 : decode cX8_judge 109 = .ok (.goto (-58), 3) := by decide +kernel
theorem dX8_judge_112 : decode cX8_judge 112 = .ok (.bipush (-9), 2) := by decide +kernel
theorem dX8_judge_114 : decode cX8_judge 114 = .ok (.ireturn, 1) := by decide +kernel
theorem dX8_see_0 : decode cX8_see 0 = .ok (.aload_n 0, 1) := by decide +kernel
theorem dX8_see_1 : decode cX8_see 1 = .ok (.iconst 0, 1) := by decide +kernel
theorem dX8_see_2 : decode cX8_see 2 = .ok (.putfield 58, 3) := by decide +kernel
theorem dX8_see_5 : decode cX8_see 5 = .ok (.iload_n 1, 1) := by decide +kernel
theorem dX8_see_6 : decode cX8_see 6 = .ok (.i2l, 1) := by decide +kernel
theorem dX8_see_7 : decode cX8_see 7 = .ok (.lconst 0, 1) := by decide +kernel
theorem dX8_see_8 : decode cX8_see 8 = .ok (.ldc2_w 165, 3) := by decide +kernel
theorem dX8_see_11 : decode cX8_see 11 = .ok (.invokestatic 61, 3) := by decide +kernel
theorem dX8_see_14 : decode cX8_see 14 = .ok (.ifCond .eq 15, 3) := by decide +kernel
theorem dX8_see_17 : decode cX8_see 17 = .ok (.iload_n 2, 1) := by decide +kernel
theorem dX8_see_18 : decode cX8_see 18 = .ok (.i2l, 1) := by decide +kernel
theorem dX8_see_19 : decode cX8_see 19 = .ok (.lconst 0, 1) := by decide +kernel
theorem dX8_see_20 : decode cX8_see 20 = .ok (.ldc2_w 184, 3) := by decide +kernel
theorem dX8_see_23 : decode cX8_see 23 = .ok (.invokestatic 61, 3) := by decide +kernel
theorem dX8_see_26 : decode cX8_see 26 = .ok (.ifCond .ne 6, 3) := by decide +kernel
theorem dX8_see_29 : decode cX8_see 29 = .ok (.bipush (-2), 2) := by decide +kernel
theorem dX8_see_31 : decode cX8_see 31 = .ok (.ireturn, 1) := by decide +kernel
theorem dX8_see_32 : decode cX8_see 32 = .ok (.aload_n 0, 1) := by decide +kernel
theorem dX8_see_33 : decode cX8_see 33 = .ok (.getfield 186, 3) := by decide +kernel
theorem dX8_see_36 : decode cX8_see 36 = .ok (.bipush 6, 2) := by decide +kernel
theorem dX8_see_38 : decode cX8_see 38 = .ok (.if_icmp .ne 6, 3) := by decide +kernel
theorem dX8_see_41 : decode cX8_see 41 = .ok (.bipush (-4), 2) := by decide +kernel
theorem dX8_see_43 : decode cX8_see 43 = .ok (.ireturn, 1) := by decide +kernel
theorem dX8_see_44 : decode cX8_see 44 = .ok (.aload_n 0, 1) := by decide +kernel
theorem dX8_see_45 : decode cX8_see 45 = .ok (.getfield 41, 3) := by decide +kernel
theorem dX8_see_48 : decode cX8_see 48 = .ok (.aload_n 0, 1) := by decide +kernel
theorem dX8_see_49 : decode cX8_see 49 = .ok (.getfield 186, 3) := by decide +kernel
theorem dX8_see_52 : decode cX8_see 52 = .ok (.iload_n 1, 1) := by decide +kernel
theorem dX8_see_53 : decode cX8_see 53 = .ok (.iastore, 1) := by decide +kernel
theorem dX8_see_54 : decode cX8_see 54 = .ok (.aload_n 0, 1) := by decide +kernel
theorem dX8_see_55 : decode cX8_see 55 = .ok (.getfield 44, 3) := by decide +kernel
theorem dX8_see_58 : decode cX8_see 58 = .ok (.aload_n 0, 1) := by decide +kernel
theorem dX8_see_59 : decode cX8_see 59 = .ok (.getfield 186, 3) := by decide +kernel
theorem dX8_see_62 : decode cX8_see 62 = .ok (.iload_n 2, 1) := by decide +kernel
theorem dX8_see_63 : decode cX8_see 63 = .ok (.iastore, 1) := by decide +kernel
theorem dX8_see_64 : decode cX8_see 64 = .ok (.aload_n 0, 1) := by decide +kernel
theorem dX8_see_65 : decode cX8_see 65 = .ok (.dup, 1) := by decide +kernel
theorem dX8_see_66 : decode cX8_see 66 = .ok (.getfield 186, 3) := by decide +kernel
theorem dX8_see_69 : decode cX8_see 69 = .ok (.iconst 1, 1) := by decide +kernel
theorem dX8_see_70 : decode cX8_see 70 = .ok (.iadd, 1) := by decide +kernel
theorem dX8_see_71 : decode cX8_see 71 = .ok (.putfield 186, 3) := by decide +kernel
theorem dX8_see_74 : decode cX8_see 74 = .ok (.aload_n 0, 1) := by decide +kernel
theorem dX8_see_75 : decode cX8_see 75 = .ok (.getfield 186, 3) := by decide +kernel
theorem dX8_see_78 : decode cX8_see 78 = .ok (.ireturn, 1) := by decide +kernel
theorem dX8_unsee_0 : decode cX8_unsee 0 = .ok (.aload_n 0, 1) := by decide +kernel
theorem dX8_unsee_1 : decode cX8_unsee 1 = .ok (.iconst 0, 1) := by decide +kernel
theorem dX8_unsee_2 : decode cX8_unsee 2 = .ok (.putfield 58, 3) := by decide +kernel
theorem dX8_unsee_5 : decode cX8_unsee 5 = .ok (.aload_n 0, 1) := by decide +kernel
theorem dX8_unsee_6 : decode cX8_unsee 6 = .ok (.getfield 186, 3) := by decide +kernel
theorem dX8_unsee_9 : decode cX8_unsee 9 = .ok (.istore_n 1, 1) := by decide +kernel
theorem dX8_unsee_10 : decode cX8_unsee 10 = .ok (.aload_n 0, 1) := by decide +kernel
theorem dX8_unsee_11 : decode cX8_unsee 11 = .ok (.iconst 0, 1) := by decide +kernel
theorem dX8_unsee_12 : decode cX8_unsee 12 = .ok (.putfield 186, 3) := by decide +kernel
theorem dX8_unsee_15 : decode cX8_unsee 15 = .ok (.iload_n 1, 1) := by decide +kernel
theorem dX8_unsee_16 : decode cX8_unsee 16 = .ok (.ireturn, 1) := by decide +kernel
theorem dX8_tickNoted_0 : decode cX8_tickNoted 0 = .ok (.aload_n 0, 1) := by decide +kernel
theorem dX8_tickNoted_1 : decode cX8_tickNoted 1 = .ok (.aload_n 0, 1) := by decide +kernel
theorem dX8_tickNoted_2 : decode cX8_tickNoted 2 = .ok (.getfield 28, 3) := by decide +kernel
theorem dX8_tickNoted_5 : decode cX8_tickNoted 5 = .ok (.invokevirtual 96, 3) := by decide +kernel
theorem dX8_tickNoted_8 : decode cX8_tickNoted 8 = .ok (.aload_n 0, 1) := by decide +kernel
theorem dX8_tickNoted_9 : decode cX8_tickNoted 9 = .ok (.getfield 28, 3) := by decide +kernel
theorem dX8_tickNoted_12 : decode cX8_tickNoted 12 = .ok (.iconst 3, 1) := by decide +kernel
theorem dX8_tickNoted_13 : decode cX8_tickNoted 13 = .ok (.iaload, 1) := by decide +kernel
theorem dX8_tickNoted_14 : decode cX8_tickNoted 14 = .ok (.bipush 100, 2) := by decide +kernel
theorem dX8_tickNoted_16 : decode cX8_tickNoted 16 = .ok (.if_icmp .ge 20, 3) := by decide +kernel
theorem dX8_tickNoted_19 : decode cX8_tickNoted 19 = .ok (.aload_n 0, 1) := by decide +kernel
theorem dX8_tickNoted_20 : decode cX8_tickNoted 20 = .ok (.getfield 47, 3) := by decide +kernel
theorem dX8_tickNoted_23 : decode cX8_tickNoted 23 = .ok (.aload_n 0, 1) := by decide +kernel
theorem dX8_tickNoted_24 : decode cX8_tickNoted 24 = .ok (.getfield 28, 3) := by decide +kernel
theorem dX8_tickNoted_27 : decode cX8_tickNoted 27 = .ok (.iconst 3, 1) := by decide +kernel
theorem dX8_tickNoted_28 : decode cX8_tickNoted 28 = .ok (.iaload, 1) := by decide +kernel
theorem dX8_tickNoted_29 : decode cX8_tickNoted 29 = .ok (.aload_n 0, 1) := by decide +kernel
theorem dX8_tickNoted_30 : decode cX8_tickNoted 30 = .ok (.getfield 28, 3) := by decide +kernel
theorem dX8_tickNoted_33 : decode cX8_tickNoted 33 = .ok (.iconst 0, 1) := by decide +kernel
theorem dX8_tickNoted_34 : decode cX8_tickNoted 34 = .ok (.iaload, 1) := by decide +kernel
theorem dX8_tickNoted_35 : decode cX8_tickNoted 35 = .ok (.iastore, 1) := by decide +kernel
theorem dX8_tickNoted_36 : decode cX8_tickNoted 36 = .ok (.return_, 1) := by decide +kernel
theorem dX8_layWas_0 : decode cX8_layWas 0 = .ok (.aload_n 0, 1) := by decide +kernel
theorem dX8_layWas_1 : decode cX8_layWas 1 = .ok (.getfield 22, 3) := by decide +kernel
theorem dX8_layWas_4 : decode cX8_layWas 4 = .ok (.aload_n 0, 1) := by decide +kernel
theorem dX8_layWas_5 : decode cX8_layWas 5 = .ok (.getfield 28, 3) := by decide +kernel
theorem dX8_layWas_8 : decode cX8_layWas 8 = .ok (.invokestatic 89, 3) := by decide +kernel
theorem dX8_layWas_11 : decode cX8_layWas 11 = .ok (.aload_n 0, 1) := by decide +kernel
theorem dX8_layWas_12 : decode cX8_layWas 12 = .ok (.getfield 28, 3) := by decide +kernel
theorem dX8_layWas_15 : decode cX8_layWas 15 = .ok (.iconst 0, 1) := by decide +kernel
theorem dX8_layWas_16 : decode cX8_layWas 16 = .ok (.invokestatic 65, 3) := by decide +kernel
theorem dX8_layWas_19 : decode cX8_layWas 19 = .ok (.iconst 1, 1) := by decide +kernel
theorem dX8_layWas_20 : decode cX8_layWas 20 = .ok (.iadd, 1) := by decide +kernel
theorem dX8_layWas_21 : decode cX8_layWas 21 = .ok (.iload_n 1, 1) := by decide +kernel
theorem dX8_layWas_22 : decode cX8_layWas 22 = .ok (.iastore, 1) := by decide +kernel
theorem dX8_layWas_23 : decode cX8_layWas 23 = .ok (.aload_n 0, 1) := by decide +kernel
theorem dX8_layWas_24 : decode cX8_layWas 24 = .ok (.getfield 47, 3) := by decide +kernel
theorem dX8_layWas_27 : decode cX8_layWas 27 = .ok (.iconst 0, 1) := by decide +kernel
theorem dX8_layWas_28 : decode cX8_layWas 28 = .ok (.aload_n 0, 1) := by decide +kernel
theorem dX8_layWas_29 : decode cX8_layWas 29 = .ok (.getfield 28, 3) := by decide +kernel
theorem dX8_layWas_32 : decode cX8_layWas 32 = .ok (.iconst 0, 1) := by decide +kernel
theorem dX8_layWas_33 : decode cX8_layWas 33 = .ok (.iaload, 1) := by decide +kernel
theorem dX8_layWas_34 : decode cX8_layWas 34 = .ok (.iastore, 1) := by decide +kernel
theorem dX8_layWas_35 : decode cX8_layWas 35 = .ok (.iconst 0, 1) := by decide +kernel
theorem dX8_layWas_36 : decode cX8_layWas 36 = .ok (.istore_n 2, 1) := by decide +kernel
theorem dX8_layWas_37 : decode cX8_layWas 37 = .ok (.iload_n 2, 1) := by decide +kernel
theorem dX8_layWas_38 : decode cX8_layWas 38 = .ok (.aload_n 0, 1) := by decide +kernel
theorem dX8_layWas_39 : decode cX8_layWas 39 = .ok (.getfield 130, 3) := by decide +kernel
theorem dX8_layWas_42 : decode cX8_layWas 42 = .ok (.if_icmp .ge 67, 3) := by decide +kernel
theorem dX8_layWas_45 : decode cX8_layWas 45 = .ok (.iconst 0, 1) := by decide +kernel
theorem dX8_layWas_46 : decode cX8_layWas 46 = .ok (.istore_n 3, 1) := by decide +kernel
theorem dX8_layWas_47 : decode cX8_layWas 47 = .ok (.iload_n 3, 1) := by decide +kernel
theorem dX8_layWas_48 : decode cX8_layWas 48 = .ok (.aload_n 0, 1) := by decide +kernel
theorem dX8_layWas_49 : decode cX8_layWas 49 = .ok (.getfield 25, 3) := by decide +kernel
theorem dX8_layWas_52 : decode cX8_layWas 52 = .ok (.iload_n 2, 1) := by decide +kernel
theorem dX8_layWas_53 : decode cX8_layWas 53 = .ok (.iaload, 1) := by decide +kernel
theorem dX8_layWas_54 : decode cX8_layWas 54 = .ok (.if_icmp .ge 24, 3) := by decide +kernel
theorem dX8_layWas_57 : decode cX8_layWas 57 = .ok (.aload_n 0, 1) := by decide +kernel
theorem dX8_layWas_58 : decode cX8_layWas 58 = .ok (.getfield 25, 3) := by decide +kernel
theorem dX8_layWas_61 : decode cX8_layWas 61 = .ok (.iload_n 2, 1) := by decide +kernel
theorem dX8_layWas_62 : decode cX8_layWas 62 = .ok (.iaload, 1) := by decide +kernel
theorem dX8_layWas_63 : decode cX8_layWas 63 = .ok (.bipush 10, 2) := by decide +kernel
theorem dX8_layWas_65 : decode cX8_layWas 65 = .ok (.if_icmp .ge 13, 3) := by decide +kernel
theorem dX8_layWas_68 : decode cX8_layWas 68 = .ok (.aload_n 0, 1) := by decide +kernel
theorem dX8_layWas_69 : decode cX8_layWas 69 = .ok (.invokevirtual 189, 3) := by decide +kernel
theorem dX8_layWas_72 : decode cX8_layWas 72 = .ok (.iinc 3 1, 3) := by decide +kernel
theorem dX8_layWas_75 : decode cX8_layWas 75 = .ok (.goto (-28), 3) := by decide +kernel
theorem dX8_layWas_78 : decode cX8_layWas 78 = .ok (.aload_n 0, 1) := by decide +kernel
theorem dX8_layWas_79 : decode cX8_layWas 79 = .ok (.getfield 25, 3) := by decide +kernel
theorem dX8_layWas_82 : decode cX8_layWas 82 = .ok (.iload_n 2, 1) := by decide +kernel
theorem dX8_layWas_83 : decode cX8_layWas 83 = .ok (.iaload, 1) := by decide +kernel
theorem dX8_layWas_84 : decode cX8_layWas 84 = .ok (.bipush 9, 2) := by decide +kernel
theorem dX8_layWas_86 : decode cX8_layWas 86 = .ok (.if_icmp .le 17, 3) := by decide +kernel
theorem dX8_layWas_89 : decode cX8_layWas 89 = .ok (.aload_n 0, 1) := by decide +kernel
theorem dX8_layWas_90 : decode cX8_layWas 90 = .ok (.aload_n 0, 1) := by decide +kernel
theorem dX8_layWas_91 : decode cX8_layWas 91 = .ok (.getfield 28, 3) := by decide +kernel
theorem dX8_layWas_94 : decode cX8_layWas 94 = .ok (.aload_n 0, 1) := by decide +kernel
theorem dX8_layWas_95 : decode cX8_layWas 95 = .ok (.getfield 25, 3) := by decide +kernel
theorem dX8_layWas_98 : decode cX8_layWas 98 = .ok (.iload_n 2, 1) := by decide +kernel
theorem dX8_layWas_99 : decode cX8_layWas 99 = .ok (.iaload, 1) := by decide +kernel
theorem dX8_layWas_100 : decode cX8_layWas 100 = .ok (.invokevirtual 133, 3) := by decide +kernel
theorem dX8_layWas_103 : decode cX8_layWas 103 = .ok (.iinc 2 1, 3) := by decide +kernel
theorem dX8_layWas_106 : decode cX8_layWas 106 = .ok (.goto (-69), 3) := by decide +kernel
theorem dX8_layWas_109 : decode cX8_layWas 109 = .ok (.aload_n 0, 1) := by decide +kernel
theorem dX8_layWas_110 : decode cX8_layWas 110 = .ok (.getfield 28, 3) := by decide +kernel
theorem dX8_layWas_113 : decode cX8_layWas 113 = .ok (.iconst 3, 1) := by decide +kernel
theorem dX8_layWas_114 : decode cX8_layWas 114 = .ok (.iaload, 1) := by decide +kernel
theorem dX8_layWas_115 : decode cX8_layWas 115 = .ok (.bipush 99, 2) := by decide +kernel
theorem dX8_layWas_117 : decode cX8_layWas 117 = .ok (.if_icmp .ge 10, 3) := by decide +kernel
theorem dX8_layWas_120 : decode cX8_layWas 120 = .ok (.aload_n 0, 1) := by decide +kernel
theorem dX8_layWas_121 : decode cX8_layWas 121 = .ok (.invokevirtual 189, 3) := by decide +kernel
theorem dX8_layWas_124 : decode cX8_layWas 124 = .ok (.goto (-15), 3) := by decide +kernel
theorem dX8_layWas_127 : decode cX8_layWas 127 = .ok (.return_, 1) := by decide +kernel
theorem dX8_which_0 : decode cX8_which 0 = .ok (.aload_n 0, 1) := by decide +kernel
theorem dX8_which_1 : decode cX8_which 1 = .ok (.iconst 0, 1) := by decide +kernel
theorem dX8_which_2 : decode cX8_which 2 = .ok (.putfield 58, 3) := by decide +kernel
theorem dX8_which_5 : decode cX8_which 5 = .ok (.iconst 0, 1) := by decide +kernel
theorem dX8_which_6 : decode cX8_which 6 = .ok (.istore_n 1, 1) := by decide +kernel
theorem dX8_which_7 : decode cX8_which 7 = .ok (.iconst 1, 1) := by decide +kernel
theorem dX8_which_8 : decode cX8_which 8 = .ok (.istore_n 2, 1) := by decide +kernel
theorem dX8_which_9 : decode cX8_which 9 = .ok (.iload_n 2, 1) := by decide +kernel
theorem dX8_which_10 : decode cX8_which 10 = .ok (.bipush 10, 2) := by decide +kernel
theorem dX8_which_12 : decode cX8_which 12 = .ok (.if_icmp .ge 80, 3) := by decide +kernel
theorem dX8_which_15 : decode cX8_which 15 = .ok (.aload_n 0, 1) := by decide +kernel
theorem dX8_which_16 : decode cX8_which 16 = .ok (.iload_n 2, 1) := by decide +kernel
theorem dX8_which_17 : decode cX8_which 17 = .ok (.invokevirtual 192, 3) := by decide +kernel
theorem dX8_which_20 : decode cX8_which 20 = .ok (.iconst 1, 1) := by decide +kernel
theorem dX8_which_21 : decode cX8_which 21 = .ok (.istore_n 3, 1) := by decide +kernel
theorem dX8_which_22 : decode cX8_which 22 = .ok (.iconst 0, 1) := by decide +kernel
theorem dX8_which_23 : decode cX8_which 23 = .ok (.istore 4, 2) := by decide +kernel
theorem dX8_which_25 : decode cX8_which 25 = .ok (.iload 4, 2) := by decide +kernel
theorem dX8_which_27 : decode cX8_which 27 = .ok (.aload_n 0, 1) := by decide +kernel
theorem dX8_which_28 : decode cX8_which 28 = .ok (.getfield 186, 3) := by decide +kernel
theorem dX8_which_31 : decode cX8_which 31 = .ok (.if_icmp .ge 41, 3) := by decide +kernel
theorem dX8_which_34 : decode cX8_which 34 = .ok (.iload_n 3, 1) := by decide +kernel
theorem dX8_which_35 : decode cX8_which 35 = .ok (.ifCond .eq 29, 3) := by decide +kernel
theorem dX8_which_38 : decode cX8_which 38 = .ok (.aload_n 0, 1) := by decide +kernel
theorem dX8_which_39 : decode cX8_which 39 = .ok (.getfield 47, 3) := by decide +kernel
theorem dX8_which_42 : decode cX8_which 42 = .ok (.aload_n 0, 1) := by decide +kernel
theorem dX8_which_43 : decode cX8_which 43 = .ok (.getfield 41, 3) := by decide +kernel
theorem dX8_which_46 : decode cX8_which 46 = .ok (.iload 4, 2) := by decide +kernel
theorem dX8_which_48 : decode cX8_which 48 = .ok (.iaload, 1) := by decide +kernel
theorem dX8_which_49 : decode cX8_which 49 = .ok (.iaload, 1) := by decide +kernel
theorem dX8_which_50 : decode cX8_which 50 = .ok (.aload_n 0, 1) := by decide +kernel
theorem dX8_which_51 : decode cX8_which 51 = .ok (.getfield 44, 3) := by decide +kernel
theorem dX8_which_54 : decode cX8_which 54 = .ok (.iload 4, 2) := by decide +kernel
theorem dX8_which_56 : decode cX8_which 56 = .ok (.iaload, 1) := by decide +kernel
theorem dX8_which_57 : decode cX8_which 57 = .ok (.if_icmp .ne 7, 3) := by decide +kernel
theorem dX8_which_60 : decode cX8_which 60 = .ok (.iconst 1, 1) := by decide +kernel
theorem dX8_which_61 : decode cX8_which 61 = .ok (.goto 4, 3) := by decide +kernel
theorem dX8_which_64 : decode cX8_which 64 = .ok (.iconst 0, 1) := by decide +kernel
theorem dX8_which_65 : decode cX8_which 65 = .ok (.istore_n 3, 1) := by decide +kernel
theorem dX8_which_66 : decode cX8_which 66 = .ok (.iinc 4 1, 3) := by decide +kernel
theorem dX8_which_69 : decode cX8_which 69 = .ok (.goto (-44), 3) := by decide +kernel
theorem dX8_which_72 : decode cX8_which 72 = .ok (.iload_n 1, 1) := by decide +kernel
theorem dX8_which_73 : decode cX8_which 73 = .ok (.iload_n 3, 1) := by decide +kernel
theorem dX8_which_74 : decode cX8_which 74 = .ok (.ifCond .eq 9, 3) := by decide +kernel
theorem dX8_which_77 : decode cX8_which 77 = .ok (.iconst 1, 1) := by decide +kernel
theorem dX8_which_78 : decode cX8_which 78 = .ok (.iload_n 2, 1) := by decide +kernel
theorem dX8_which_79 : decode cX8_which 79 = .ok (.ishl, 1) := by decide +kernel
theorem dX8_which_80 : decode cX8_which 80 = .ok (.goto 4, 3) := by decide +kernel
theorem dX8_which_83 : decode cX8_which 83 = .ok (.iconst 0, 1) := by decide +kernel
theorem dX8_which_84 : decode cX8_which 84 = .ok (.ior, 1) := by decide +kernel
theorem dX8_which_85 : decode cX8_which 85 = .ok (.istore_n 1, 1) := by decide +kernel
theorem dX8_which_86 : decode cX8_which 86 = .ok (.iinc 2 1, 3) := by decide +kernel
theorem dX8_which_89 : decode cX8_which 89 = .ok (.goto (-80), 3) := by decide +kernel
theorem dX8_which_92 : decode cX8_which 92 = .ok (.iload_n 1, 1) := by decide +kernel
theorem dX8_which_93 : decode cX8_which 93 = .ok (.ireturn, 1) := by decide +kernel
theorem dX8_divisor_0 : decode cX8_divisor 0 = .ok (.iload_n 0, 1) := by decide +kernel
theorem dX8_divisor_1 : decode cX8_divisor 1 = .ok (.ifCond .ge 8, 3) := by decide +kernel
theorem dX8_divisor_4 : decode cX8_divisor 4 = .ok (.iload_n 0, 1) := by decide +kernel
theorem dX8_divisor_5 : decode cX8_divisor 5 = .ok (.ineg, 1) := by decide +kernel
theorem dX8_divisor_6 : decode cX8_divisor 6 = .ok (.goto 4, 3) := by decide +kernel
theorem dX8_divisor_9 : decode cX8_divisor 9 = .ok (.iload_n 0, 1) := by decide +kernel
theorem dX8_divisor_10 : decode cX8_divisor 10 = .ok (.istore_n 2, 1) := by decide +kernel
theorem dX8_divisor_11 : decode cX8_divisor 11 = .ok (.iload_n 1, 1) := by decide +kernel
theorem dX8_divisor_12 : decode cX8_divisor 12 = .ok (.istore_n 3, 1) := by decide +kernel
theorem dX8_divisor_13 : decode cX8_divisor 13 = .ok (.iload_n 3, 1) := by decide +kernel
theorem dX8_divisor_14 : decode cX8_divisor 14 = .ok (.ifCond .eq 16, 3) := by decide +kernel
theorem dX8_divisor_17 : decode cX8_divisor 17 = .ok (.iload_n 2, 1) := by decide +kernel
theorem dX8_divisor_18 : decode cX8_divisor 18 = .ok (.iload_n 3, 1) := by decide +kernel
theorem dX8_divisor_19 : decode cX8_divisor 19 = .ok (.irem, 1) := by decide +kernel
theorem dX8_divisor_20 : decode cX8_divisor 20 = .ok (.istore 4, 2) := by decide +kernel
theorem dX8_divisor_22 : decode cX8_divisor 22 = .ok (.iload_n 3, 1) := by decide +kernel
theorem dX8_divisor_23 : decode cX8_divisor 23 = .ok (.istore_n 2, 1) := by decide +kernel
theorem dX8_divisor_24 : decode cX8_divisor 24 = .ok (.iload 4, 2) := by decide +kernel
theorem dX8_divisor_26 : decode cX8_divisor 26 = .ok (.istore_n 3, 1) := by decide +kernel
theorem dX8_divisor_27 : decode cX8_divisor 27 = .ok (.goto (-14), 3) := by decide +kernel
theorem dX8_divisor_30 : decode cX8_divisor 30 = .ok (.iload_n 2, 1) := by decide +kernel
theorem dX8_divisor_31 : decode cX8_divisor 31 = .ok (.ireturn, 1) := by decide +kernel
theorem dX8_fraction_0 : decode cX8_fraction 0 = .ok (.iload_n 0, 1) := by decide +kernel
theorem dX8_fraction_1 : decode cX8_fraction 1 = .ok (.iload_n 1, 1) := by decide +kernel
theorem dX8_fraction_2 : decode cX8_fraction 2 = .ok (.invokestatic 196, 3) := by decide +kernel
theorem dX8_fraction_5 : decode cX8_fraction 5 = .ok (.istore_n 3, 1) := by decide +kernel
theorem dX8_fraction_6 : decode cX8_fraction 6 = .ok (.iload_n 2, 1) := by decide +kernel
theorem dX8_fraction_7 : decode cX8_fraction 7 = .ok (.ifCond .eq 9, 3) := by decide +kernel
theorem dX8_fraction_10 : decode cX8_fraction 10 = .ok (.iload_n 0, 1) := by decide +kernel
theorem dX8_fraction_11 : decode cX8_fraction 11 = .ok (.iload_n 3, 1) := by decide +kernel
theorem dX8_fraction_12 : decode cX8_fraction 12 = .ok (.idiv, 1) := by decide +kernel
theorem dX8_fraction_13 : decode cX8_fraction 13 = .ok (.goto 6, 3) := by decide +kernel
theorem dX8_fraction_16 : decode cX8_fraction 16 = .ok (.iload_n 1, 1) := by decide +kernel
theorem dX8_fraction_17 : decode cX8_fraction 17 = .ok (.iload_n 3, 1) := by decide +kernel
theorem dX8_fraction_18 : decode cX8_fraction 18 = .ok (.idiv, 1) := by decide +kernel
theorem dX8_fraction_19 : decode cX8_fraction 19 = .ok (.ireturn, 1) := by decide +kernel
theorem dX8_factorial_0 : decode cX8_factorial 0 = .ok (.iconst 1, 1) := by decide +kernel
theorem dX8_factorial_1 : decode cX8_factorial 1 = .ok (.istore_n 1, 1) := by decide +kernel
theorem dX8_factorial_2 : decode cX8_factorial 2 = .ok (.iconst 2, 1) := by decide +kernel
theorem dX8_factorial_3 : decode cX8_factorial 3 = .ok (.istore_n 2, 1) := by decide +kernel
theorem dX8_factorial_4 : decode cX8_factorial 4 = .ok (.iload_n 2, 1) := by decide +kernel
theorem dX8_factorial_5 : decode cX8_factorial 5 = .ok (.iload_n 0, 1) := by decide +kernel
theorem dX8_factorial_6 : decode cX8_factorial 6 = .ok (.if_icmp .gt 13, 3) := by decide +kernel
theorem dX8_factorial_9 : decode cX8_factorial 9 = .ok (.iload_n 1, 1) := by decide +kernel
theorem dX8_factorial_10 : decode cX8_factorial 10 = .ok (.iload_n 2, 1) := by decide +kernel
theorem dX8_factorial_11 : decode cX8_factorial 11 = .ok (.imul, 1) := by decide +kernel
theorem dX8_factorial_12 : decode cX8_factorial 12 = .ok (.istore_n 1, 1) := by decide +kernel
theorem dX8_factorial_13 : decode cX8_factorial 13 = .ok (.iinc 2 1, 3) := by decide +kernel
theorem dX8_factorial_16 : decode cX8_factorial 16 = .ok (.goto (-12), 3) := by decide +kernel
theorem dX8_factorial_19 : decode cX8_factorial 19 = .ok (.iload_n 1, 1) := by decide +kernel
theorem dX8_factorial_20 : decode cX8_factorial 20 = .ok (.ireturn, 1) := by decide +kernel
theorem dX8_energyBy_0 : decode cX8_energyBy 0 = .ok (.aload_n 0, 1) := by decide +kernel
theorem dX8_energyBy_1 : decode cX8_energyBy 1 = .ok (.iload_n 1, 1) := by decide +kernel
theorem dX8_energyBy_2 : decode cX8_energyBy 2 = .ok (.iload_n 2, 1) := by decide +kernel
theorem dX8_energyBy_3 : decode cX8_energyBy 3 = .ok (.invokevirtual 167, 3) := by decide +kernel
theorem dX8_energyBy_6 : decode cX8_energyBy 6 = .ok (.aload_n 0, 1) := by decide +kernel
theorem dX8_energyBy_7 : decode cX8_energyBy 7 = .ok (.getfield 28, 3) := by decide +kernel
theorem dX8_energyBy_10 : decode cX8_energyBy 10 = .ok (.iconst 4, 1) := by decide +kernel
theorem dX8_energyBy_11 : decode cX8_energyBy 11 = .ok (.iaload, 1) := by decide +kernel
theorem dX8_energyBy_12 : decode cX8_energyBy 12 = .ok (.ireturn, 1) := by decide +kernel
theorem dX8_share_0 : decode cX8_share 0 = .ok (.aload_n 0, 1) := by decide +kernel
theorem dX8_share_1 : decode cX8_share 1 = .ok (.iconst 0, 1) := by decide +kernel
theorem dX8_share_2 : decode cX8_share 2 = .ok (.putfield 58, 3) := by decide +kernel
theorem dX8_share_5 : decode cX8_share 5 = .ok (.iload_n 1, 1) := by decide +kernel
theorem dX8_share_6 : decode cX8_share 6 = .ok (.i2l, 1) := by decide +kernel
theorem dX8_share_7 : decode cX8_share 7 = .ok (.lconst 0, 1) := by decide +kernel
theorem dX8_share_8 : decode cX8_share 8 = .ok (.ldc2_w 163, 3) := by decide +kernel
theorem dX8_share_11 : decode cX8_share 11 = .ok (.invokestatic 61, 3) := by decide +kernel
theorem dX8_share_14 : decode cX8_share 14 = .ok (.ifCond .ne 5, 3) := by decide +kernel
theorem dX8_share_17 : decode cX8_share 17 = .ok (.iconst (-1), 1) := by decide +kernel
theorem dX8_share_18 : decode cX8_share 18 = .ok (.ireturn, 1) := by decide +kernel
theorem dX8_share_19 : decode cX8_share 19 = .ok (.iconst 0, 1) := by decide +kernel
theorem dX8_share_20 : decode cX8_share 20 = .ok (.istore_n 3, 1) := by decide +kernel
theorem dX8_share_21 : decode cX8_share 21 = .ok (.iconst 0, 1) := by decide +kernel
theorem dX8_share_22 : decode cX8_share 22 = .ok (.istore 4, 2) := by decide +kernel
theorem dX8_share_24 : decode cX8_share 24 = .ok (.iload 4, 2) := by decide +kernel
theorem dX8_share_26 : decode cX8_share 26 = .ok (.bipush 8, 2) := by decide +kernel
theorem dX8_share_28 : decode cX8_share 28 = .ok (.if_icmp .ge 61, 3) := by decide +kernel
theorem dX8_share_31 : decode cX8_share 31 = .ok (.iload 4, 2) := by decide +kernel
theorem dX8_share_33 : decode cX8_share 33 = .ok (.iload_n 1, 1) := by decide +kernel
theorem dX8_share_34 : decode cX8_share 34 = .ok (.invokestatic 69, 3) := by decide +kernel
theorem dX8_share_37 : decode cX8_share 37 = .ok (.ifCond .ne 46, 3) := by decide +kernel
theorem dX8_share_40 : decode cX8_share 40 = .ok (.iload 4, 2) := by decide +kernel
theorem dX8_share_42 : decode cX8_share 42 = .ok (.invokestatic 200, 3) := by decide +kernel
theorem dX8_share_45 : decode cX8_share 45 = .ok (.istore 5, 2) := by decide +kernel
theorem dX8_share_47 : decode cX8_share 47 = .ok (.iload_n 3, 1) := by decide +kernel
theorem dX8_share_48 : decode cX8_share 48 = .ok (.iload 5, 2) := by decide +kernel
theorem dX8_share_50 : decode cX8_share 50 = .ok (.invokestatic 203, 3) := by decide +kernel
theorem dX8_share_53 : decode cX8_share 53 = .ok (.iconst 2, 1) := by decide +kernel
theorem dX8_share_54 : decode cX8_share 54 = .ok (.iload 5, 2) := by decide +kernel
theorem dX8_share_56 : decode cX8_share 56 = .ok (.isub, 1) := by decide +kernel
theorem dX8_share_57 : decode cX8_share 57 = .ok (.invokestatic 203, 3) := by decide +kernel
theorem dX8_share_60 : decode cX8_share 60 = .ok (.imul, 1) := by decide +kernel
theorem dX8_share_61 : decode cX8_share 61 = .ok (.aload_n 0, 1) := by decide +kernel
theorem dX8_share_62 : decode cX8_share 62 = .ok (.iload 4, 2) := by decide +kernel
theorem dX8_share_64 : decode cX8_share 64 = .ok (.iconst 0, 1) := by decide +kernel
theorem dX8_share_65 : decode cX8_share 65 = .ok (.invokevirtual 206, 3) := by decide +kernel
theorem dX8_share_68 : decode cX8_share 68 = .ok (.aload_n 0, 1) := by decide +kernel
theorem dX8_share_69 : decode cX8_share 69 = .ok (.iload 4, 2) := by decide +kernel
theorem dX8_share_71 : decode cX8_share 71 = .ok (.iconst 1, 1) := by decide +kernel
theorem dX8_share_72 : decode cX8_share 72 = .ok (.iload_n 1, 1) := by decide +kernel
theorem dX8_share_73 : decode cX8_share 73 = .ok (.ishl, 1) := by decide +kernel
theorem dX8_share_74 : decode cX8_share 74 = .ok (.ior, 1) := by decide +kernel
theorem dX8_share_75 : decode cX8_share 75 = .ok (.iconst 0, 1) := by decide +kernel
theorem dX8_share_76 : decode cX8_share 76 = .ok (.invokevirtual 206, 3) := by decide +kernel
theorem dX8_share_79 : decode cX8_share 79 = .ok (.isub, 1) := by decide +kernel
theorem dX8_share_80 : decode cX8_share 80 = .ok (.imul, 1) := by decide +kernel
theorem dX8_share_81 : decode cX8_share 81 = .ok (.iadd, 1) := by decide +kernel
theorem dX8_share_82 : decode cX8_share 82 = .ok (.istore_n 3, 1) := by decide +kernel
theorem dX8_share_83 : decode cX8_share 83 = .ok (.iinc 4 1, 3) := by decide +kernel
theorem dX8_share_86 : decode cX8_share 86 = .ok (.goto (-62), 3) := by decide +kernel
theorem dX8_share_89 : decode cX8_share 89 = .ok (.iload_n 3, 1) := by decide +kernel
theorem dX8_share_90 : decode cX8_share 90 = .ok (.bipush 6, 2) := by decide +kernel
theorem dX8_share_92 : decode cX8_share 92 = .ok (.iload_n 2, 1) := by decide +kernel
theorem dX8_share_93 : decode cX8_share 93 = .ok (.invokestatic 209, 3) := by decide +kernel
theorem dX8_share_96 : decode cX8_share 96 = .ok (.ireturn, 1) := by decide +kernel
theorem dX8_luck_0 : decode cX8_luck 0 = .ok (.aload_n 0, 1) := by decide +kernel
theorem dX8_luck_1 : decode cX8_luck 1 = .ok (.iconst 0, 1) := by decide +kernel
theorem dX8_luck_2 : decode cX8_luck 2 = .ok (.putfield 58, 3) := by decide +kernel
theorem dX8_luck_5 : decode cX8_luck 5 = .ok (.iload_n 1, 1) := by decide +kernel
theorem dX8_luck_6 : decode cX8_luck 6 = .ok (.i2l, 1) := by decide +kernel
theorem dX8_luck_7 : decode cX8_luck 7 = .ok (.lconst 0, 1) := by decide +kernel
theorem dX8_luck_8 : decode cX8_luck 8 = .ok (.ldc2_w 213, 3) := by decide +kernel
theorem dX8_luck_11 : decode cX8_luck 11 = .ok (.invokestatic 61, 3) := by decide +kernel
theorem dX8_luck_14 : decode cX8_luck 14 = .ok (.ifCond .eq 27, 3) := by decide +kernel
theorem dX8_luck_17 : decode cX8_luck 17 = .ok (.iload_n 2, 1) := by decide +kernel
theorem dX8_luck_18 : decode cX8_luck 18 = .ok (.i2l, 1) := by decide +kernel
theorem dX8_luck_19 : decode cX8_luck 19 = .ok (.lconst 0, 1) := by decide +kernel
theorem dX8_luck_20 : decode cX8_luck 20 = .ok (.ldc2_w 215, 3) := by decide +kernel
theorem dX8_luck_23 : decode cX8_luck 23 = .ok (.invokestatic 61, 3) := by decide +kernel
theorem dX8_luck_26 : decode cX8_luck 26 = .ok (.ifCond .eq 15, 3) := by decide +kernel
theorem dX8_luck_29 : decode cX8_luck 29 = .ok (.iload_n 3, 1) := by decide +kernel
theorem dX8_luck_30 : decode cX8_luck 30 = .ok (.i2l, 1) := by decide +kernel
theorem dX8_luck_31 : decode cX8_luck 31 = .ok (.lconst 0, 1) := by decide +kernel
theorem dX8_luck_32 : decode cX8_luck 32 = .ok (.ldc2_w 217, 3) := by decide +kernel
theorem dX8_luck_35 : decode cX8_luck 35 = .ok (.invokestatic 61, 3) := by decide +kernel
theorem dX8_luck_38 : decode cX8_luck 38 = .ok (.ifCond .ne 6, 3) := by decide +kernel
theorem dX8_luck_41 : decode cX8_luck 41 = .ok (.bipush (-2), 2) := by decide +kernel
theorem dX8_luck_43 : decode cX8_luck 43 = .ok (.ireturn, 1) := by decide +kernel
theorem dX8_luck_44 : decode cX8_luck 44 = .ok (.aload_n 0, 1) := by decide +kernel
theorem dX8_luck_45 : decode cX8_luck 45 = .ok (.invokevirtual 171, 3) := by decide +kernel
theorem dX8_luck_48 : decode cX8_luck 48 = .ok (.iload_n 1, 1) := by decide +kernel
theorem dX8_luck_49 : decode cX8_luck 49 = .ok (.if_icmp .ge 10, 3) := by decide +kernel
theorem dX8_luck_52 : decode cX8_luck 52 = .ok (.aload_n 0, 1) := by decide +kernel
theorem dX8_luck_53 : decode cX8_luck 53 = .ok (.invokevirtual 171, 3) := by decide +kernel
theorem dX8_luck_56 : decode cX8_luck 56 = .ok (.goto 4, 3) := by decide +kernel
theorem dX8_luck_59 : decode cX8_luck 59 = .ok (.iload_n 1, 1) := by decide +kernel
theorem dX8_luck_60 : decode cX8_luck 60 = .ok (.istore 5, 2) := by decide +kernel
theorem dX8_luck_62 : decode cX8_luck 62 = .ok (.iconst 0, 1) := by decide +kernel
theorem dX8_luck_63 : decode cX8_luck 63 = .ok (.istore 6, 2) := by decide +kernel
theorem dX8_luck_65 : decode cX8_luck 65 = .ok (.iconst 0, 1) := by decide +kernel
theorem dX8_luck_66 : decode cX8_luck 66 = .ok (.istore 7, 2) := by decide +kernel
theorem dX8_luck_68 : decode cX8_luck 68 = .ok (.iload 7, 2) := by decide +kernel
theorem dX8_luck_70 : decode cX8_luck 70 = .ok (.iconst 1, 1) := by decide +kernel
theorem dX8_luck_71 : decode cX8_luck 71 = .ok (.iload 5, 2) := by decide +kernel
theorem dX8_luck_73 : decode cX8_luck 73 = .ok (.ishl, 1) := by decide +kernel
theorem dX8_luck_74 : decode cX8_luck 74 = .ok (.if_icmp .ge 55, 3) := by decide +kernel
theorem dX8_luck_77 : decode cX8_luck 77 = .ok (.iload 6, 2) := by decide +kernel
theorem dX8_luck_79 : decode cX8_luck 79 = .ok (.aload_n 0, 1) := by decide +kernel
theorem dX8_luck_80 : decode cX8_luck 80 = .ok (.bipush 7, 2) := by decide +kernel
theorem dX8_luck_82 : decode cX8_luck 82 = .ok (.iload 7, 2) := by decide +kernel
theorem dX8_luck_84 : decode cX8_luck 84 = .ok (.invokevirtual 206, 3) := by decide +kernel
theorem dX8_luck_87 : decode cX8_luck 87 = .ok (.iload_n 2, 1) := by decide +kernel
theorem dX8_luck_88 : decode cX8_luck 88 = .ok (.if_icmp .gt 31, 3) := by decide +kernel
theorem dX8_luck_91 : decode cX8_luck 91 = .ok (.iload_n 3, 1) := by decide +kernel
theorem dX8_luck_92 : decode cX8_luck 92 = .ok (.iload 7, 2) := by decide +kernel
theorem dX8_luck_94 : decode cX8_luck 94 = .ok (.invokestatic 200, 3) := by decide +kernel
theorem dX8_luck_97 : decode cX8_luck 97 = .ok (.invokestatic 219, 3) := by decide +kernel
theorem dX8_luck_100 : decode cX8_luck 100 = .ok (.bipush 10, 2) := by decide +kernel
theorem dX8_luck_102 : decode cX8_luck 102 = .ok (.iload_n 3, 1) := by decide +kernel
theorem dX8_luck_103 : decode cX8_luck 103 = .ok (.isub, 1) := by decide +kernel
theorem dX8_luck_104 : decode cX8_luck 104 = .ok (.iload 5, 2) := by decide +kernel
theorem dX8_luck_106 : decode cX8_luck 106 = .ok (.iload 7, 2) := by decide +kernel
theorem dX8_luck_108 : decode cX8_luck 108 = .ok (.invokestatic 200, 3) := by decide +kernel
theorem dX8_luck_111 : decode cX8_luck 111 = .ok (.isub, 1) := by decide +kernel
theorem dX8_luck_112 : decode cX8_luck 112 = .ok (.invokestatic 219, 3) := by decide +kernel
theorem dX8_luck_115 : decode cX8_luck 115 = .ok (.imul, 1) := by decide +kernel
theorem dX8_luck_116 : decode cX8_luck 116 = .ok (.goto 4, 3) := by decide +kernel
theorem dX8_luck_119 : decode cX8_luck 119 = .ok (.iconst 0, 1) := by decide +kernel
theorem dX8_luck_120 : decode cX8_luck 120 = .ok (.iadd, 1) := by decide +kernel
theorem dX8_luck_121 : decode cX8_luck 121 = .ok (.istore 6, 2) := by decide +kernel
theorem dX8_luck_123 : decode cX8_luck 123 = .ok (.iinc 7 1, 3) := by decide +kernel
theorem dX8_luck_126 : decode cX8_luck 126 = .ok (.goto (-58), 3) := by decide +kernel
theorem dX8_luck_129 : decode cX8_luck 129 = .ok (.iload 6, 2) := by decide +kernel
theorem dX8_luck_131 : decode cX8_luck 131 = .ok (.bipush 10, 2) := by decide +kernel
theorem dX8_luck_133 : decode cX8_luck 133 = .ok (.iload 5, 2) := by decide +kernel
theorem dX8_luck_135 : decode cX8_luck 135 = .ok (.invokestatic 219, 3) := by decide +kernel
theorem dX8_luck_138 : decode cX8_luck 138 = .ok (.iload 4, 2) := by decide +kernel
theorem dX8_luck_140 : decode cX8_luck 140 = .ok (.invokestatic 209, 3) := by decide +kernel
theorem dX8_luck_143 : decode cX8_luck 143 = .ok (.ireturn, 1) := by decide +kernel
theorem dX8_seed_0 : decode cX8_seed 0 = .ok (.aload_n 0, 1) := by decide +kernel
theorem dX8_seed_1 : decode cX8_seed 1 = .ok (.iconst 0, 1) := by decide +kernel
theorem dX8_seed_2 : decode cX8_seed 2 = .ok (.putfield 58, 3) := by decide +kernel
theorem dX8_seed_5 : decode cX8_seed 5 = .ok (.aload_n 0, 1) := by decide +kernel
theorem dX8_seed_6 : decode cX8_seed 6 = .ok (.getfield 222, 3) := by decide +kernel
theorem dX8_seed_9 : decode cX8_seed 9 = .ok (.lstore_n 3, 1) := by decide +kernel
theorem dX8_seed_10 : decode cX8_seed 10 = .ok (.aload_n 0, 1) := by decide +kernel
theorem dX8_seed_11 : decode cX8_seed 11 = .ok (.lload_n 1, 1) := by decide +kernel
theorem dX8_seed_12 : decode cX8_seed 12 = .ok (.putfield 222, 3) := by decide +kernel
theorem dX8_seed_15 : decode cX8_seed 15 = .ok (.lload_n 3, 1) := by decide +kernel
theorem dX8_seed_16 : decode cX8_seed 16 = .ok (.lreturn, 1) := by decide +kernel
theorem dX8_drawn_0 : decode cX8_drawn 0 = .ok (.aload_n 0, 1) := by decide +kernel
theorem dX8_drawn_1 : decode cX8_drawn 1 = .ok (.iconst 0, 1) := by decide +kernel
theorem dX8_drawn_2 : decode cX8_drawn 2 = .ok (.putfield 58, 3) := by decide +kernel
theorem dX8_drawn_5 : decode cX8_drawn 5 = .ok (.iload_n 1, 1) := by decide +kernel
theorem dX8_drawn_6 : decode cX8_drawn 6 = .ok (.i2l, 1) := by decide +kernel
theorem dX8_drawn_7 : decode cX8_drawn 7 = .ok (.lconst 1, 1) := by decide +kernel
theorem dX8_drawn_8 : decode cX8_drawn 8 = .ok (.ldc2_w 226, 3) := by decide +kernel
theorem dX8_drawn_11 : decode cX8_drawn 11 = .ok (.invokestatic 61, 3) := by decide +kernel
theorem dX8_drawn_14 : decode cX8_drawn 14 = .ok (.ifCond .ne 6, 3) := by decide +kernel
theorem dX8_drawn_17 : decode cX8_drawn 17 = .ok (.bipush (-2), 2) := by decide +kernel
theorem dX8_drawn_19 : decode cX8_drawn 19 = .ok (.ireturn, 1) := by decide +kernel
theorem dX8_drawn_20 : decode cX8_drawn 20 = .ok (.aload_n 0, 1) := by decide +kernel
theorem dX8_drawn_21 : decode cX8_drawn 21 = .ok (.getfield 19, 3) := by decide +kernel
theorem dX8_drawn_24 : decode cX8_drawn 24 = .ok (.aload_n 0, 1) := by decide +kernel
theorem dX8_drawn_25 : decode cX8_drawn 25 = .ok (.getfield 28, 3) := by decide +kernel
theorem dX8_drawn_28 : decode cX8_drawn 28 = .ok (.invokestatic 89, 3) := by decide +kernel
theorem dX8_drawn_31 : decode cX8_drawn 31 = .ok (.iconst 0, 1) := by decide +kernel
theorem dX8_drawn_32 : decode cX8_drawn 32 = .ok (.istore_n 2, 1) := by decide +kernel
theorem dX8_drawn_33 : decode cX8_drawn 33 = .ok (.iload_n 2, 1) := by decide +kernel
theorem dX8_drawn_34 : decode cX8_drawn 34 = .ok (.iload_n 1, 1) := by decide +kernel
theorem dX8_drawn_35 : decode cX8_drawn 35 = .ok (.if_icmp .ge 74, 3) := by decide +kernel
theorem dX8_drawn_38 : decode cX8_drawn 38 = .ok (.aload_n 0, 1) := by decide +kernel
theorem dX8_drawn_39 : decode cX8_drawn 39 = .ok (.aload_n 0, 1) := by decide +kernel
theorem dX8_drawn_40 : decode cX8_drawn 40 = .ok (.getfield 222, 3) := by decide +kernel
theorem dX8_drawn_43 : decode cX8_drawn 43 = .ok (.ldc2_w 228, 3) := by decide +kernel
theorem dX8_drawn_46 : decode cX8_drawn 46 = .ok (.lmul, 1) := by decide +kernel
theorem dX8_drawn_47 : decode cX8_drawn 47 = .ok (.ldc2_w 230, 3) := by decide +kernel
theorem dX8_drawn_50 : decode cX8_drawn 50 = .ok (.ladd, 1) := by decide +kernel
theorem dX8_drawn_51 : decode cX8_drawn 51 = .ok (.putfield 222, 3) := by decide +kernel
theorem dX8_drawn_54 : decode cX8_drawn 54 = .ok (.aload_n 0, 1) := by decide +kernel
theorem dX8_drawn_55 : decode cX8_drawn 55 = .ok (.getfield 222, 3) := by decide +kernel
theorem dX8_drawn_58 : decode cX8_drawn 58 = .ok (.bipush 33, 2) := by decide +kernel
theorem dX8_drawn_60 : decode cX8_drawn 60 = .ok (.lushr, 1) := by decide +kernel
theorem dX8_drawn_61 : decode cX8_drawn 61 = .ok (.l2i, 1) := by decide +kernel
theorem dX8_drawn_62 : decode cX8_drawn 62 = .ok (.istore_n 3, 1) := by decide +kernel
theorem dX8_drawn_63 : decode cX8_drawn 63 = .ok (.iload_n 3, 1) := by decide +kernel
theorem dX8_drawn_64 : decode cX8_drawn 64 = .ok (.iconst 2, 1) := by decide +kernel
theorem dX8_drawn_65 : decode cX8_drawn 65 = .ok (.idiv, 1) := by decide +kernel
theorem dX8_drawn_66 : decode cX8_drawn 66 = .ok (.iconst 4, 1) := by decide +kernel
theorem dX8_drawn_67 : decode cX8_drawn 67 = .ok (.irem, 1) := by decide +kernel
theorem dX8_drawn_68 : decode cX8_drawn 68 = .ok (.ifCond .ne 27, 3) := by decide +kernel
theorem dX8_drawn_71 : decode cX8_drawn 71 = .ok (.aload_n 0, 1) := by decide +kernel
theorem dX8_drawn_72 : decode cX8_drawn 72 = .ok (.getfield 28, 3) := by decide +kernel
theorem dX8_drawn_75 : decode cX8_drawn 75 = .ok (.iload_n 3, 1) := by decide +kernel
theorem dX8_drawn_76 : decode cX8_drawn 76 = .ok (.iconst 2, 1) := by decide +kernel
theorem dX8_drawn_77 : decode cX8_drawn 77 = .ok (.irem, 1) := by decide +kernel
theorem dX8_drawn_78 : decode cX8_drawn 78 = .ok (.invokestatic 123, 3) := by decide +kernel
theorem dX8_drawn_81 : decode cX8_drawn 81 = .ok (.ifCond .ne 14, 3) := by decide +kernel
theorem dX8_drawn_84 : decode cX8_drawn 84 = .ok (.aload_n 0, 1) := by decide +kernel
theorem dX8_drawn_85 : decode cX8_drawn 85 = .ok (.getfield 28, 3) := by decide +kernel
theorem dX8_drawn_88 : decode cX8_drawn 88 = .ok (.iload_n 3, 1) := by decide +kernel
theorem dX8_drawn_89 : decode cX8_drawn 89 = .ok (.iconst 2, 1) := by decide +kernel
theorem dX8_drawn_90 : decode cX8_drawn 90 = .ok (.irem, 1) := by decide +kernel
theorem dX8_drawn_91 : decode cX8_drawn 91 = .ok (.iconst 0, 1) := by decide +kernel
theorem dX8_drawn_92 : decode cX8_drawn 92 = .ok (.invokestatic 126, 3) := by decide +kernel
theorem dX8_drawn_95 : decode cX8_drawn 95 = .ok (.aload_n 0, 1) := by decide +kernel
theorem dX8_drawn_96 : decode cX8_drawn 96 = .ok (.aload_n 0, 1) := by decide +kernel
theorem dX8_drawn_97 : decode cX8_drawn 97 = .ok (.getfield 28, 3) := by decide +kernel
theorem dX8_drawn_100 : decode cX8_drawn 100 = .ok (.invokevirtual 96, 3) := by decide +kernel
theorem dX8_drawn_103 : decode cX8_drawn 103 = .ok (.iinc 2 1, 3) := by decide +kernel
theorem dX8_drawn_106 : decode cX8_drawn 106 = .ok (.goto (-73), 3) := by decide +kernel
theorem dX8_drawn_109 : decode cX8_drawn 109 = .ok (.aload_n 0, 1) := by decide +kernel
theorem dX8_drawn_110 : decode cX8_drawn 110 = .ok (.getfield 28, 3) := by decide +kernel
theorem dX8_drawn_113 : decode cX8_drawn 113 = .ok (.bipush 6, 2) := by decide +kernel
theorem dX8_drawn_115 : decode cX8_drawn 115 = .ok (.iaload, 1) := by decide +kernel
theorem dX8_drawn_116 : decode cX8_drawn 116 = .ok (.aload_n 0, 1) := by decide +kernel
theorem dX8_drawn_117 : decode cX8_drawn 117 = .ok (.getfield 19, 3) := by decide +kernel
theorem dX8_drawn_120 : decode cX8_drawn 120 = .ok (.bipush 6, 2) := by decide +kernel
theorem dX8_drawn_122 : decode cX8_drawn 122 = .ok (.iaload, 1) := by decide +kernel
theorem dX8_drawn_123 : decode cX8_drawn 123 = .ok (.isub, 1) := by decide +kernel
theorem dX8_drawn_124 : decode cX8_drawn 124 = .ok (.ireturn, 1) := by decide +kernel
theorem dX8_keep_0 : decode cX8_keep 0 = .ok (.aload_n 0, 1) := by decide +kernel
theorem dX8_keep_1 : decode cX8_keep 1 = .ok (.iconst 0, 1) := by decide +kernel
theorem dX8_keep_2 : decode cX8_keep 2 = .ok (.putfield 58, 3) := by decide +kernel
theorem dX8_keep_5 : decode cX8_keep 5 = .ok (.iload_n 1, 1) := by decide +kernel
theorem dX8_keep_6 : decode cX8_keep 6 = .ok (.i2l, 1) := by decide +kernel
theorem dX8_keep_7 : decode cX8_keep 7 = .ok (.lconst 0, 1) := by decide +kernel
theorem dX8_keep_8 : decode cX8_keep 8 = .ok (.lconst 1, 1) := by decide +kernel
theorem dX8_keep_9 : decode cX8_keep 9 = .ok (.invokestatic 61, 3) := by decide +kernel
theorem dX8_keep_12 : decode cX8_keep 12 = .ok (.ifCond .ne 5, 3) := by decide +kernel
theorem dX8_keep_15 : decode cX8_keep 15 = .ok (.iconst (-1), 1) := by decide +kernel
theorem dX8_keep_16 : decode cX8_keep 16 = .ok (.ireturn, 1) := by decide +kernel
theorem dX8_keep_17 : decode cX8_keep 17 = .ok (.aload_n 0, 1) := by decide +kernel
theorem dX8_keep_18 : decode cX8_keep 18 = .ok (.getfield 37, 3) := by decide +kernel
theorem dX8_keep_21 : decode cX8_keep 21 = .ok (.iload_n 1, 1) := by decide +kernel
theorem dX8_keep_22 : decode cX8_keep 22 = .ok (.iconst 1, 1) := by decide +kernel
theorem dX8_keep_23 : decode cX8_keep 23 = .ok (.bastore, 1) := by decide +kernel
theorem dX8_keep_24 : decode cX8_keep 24 = .ok (.iconst 0, 1) := by decide +kernel
theorem dX8_keep_25 : decode cX8_keep 25 = .ok (.istore_n 2, 1) := by decide +kernel
theorem dX8_keep_26 : decode cX8_keep 26 = .ok (.iload_n 2, 1) := by decide +kernel
theorem dX8_keep_27 : decode cX8_keep 27 = .ok (.bipush 39, 2) := by decide +kernel
theorem dX8_keep_29 : decode cX8_keep 29 = .ok (.if_icmp .ge 26, 3) := by decide +kernel
theorem dX8_keep_32 : decode cX8_keep 32 = .ok (.aload_n 0, 1) := by decide +kernel
theorem dX8_keep_33 : decode cX8_keep 33 = .ok (.getfield 34, 3) := by decide +kernel
theorem dX8_keep_36 : decode cX8_keep 36 = .ok (.bipush 39, 2) := by decide +kernel
theorem dX8_keep_38 : decode cX8_keep 38 = .ok (.iload_n 1, 1) := by decide +kernel
theorem dX8_keep_39 : decode cX8_keep 39 = .ok (.imul, 1) := by decide +kernel
theorem dX8_keep_40 : decode cX8_keep 40 = .ok (.iload_n 2, 1) := by decide +kernel
theorem dX8_keep_41 : decode cX8_keep 41 = .ok (.iadd, 1) := by decide +kernel
theorem dX8_keep_42 : decode cX8_keep 42 = .ok (.aload_n 0, 1) := by decide +kernel
theorem dX8_keep_43 : decode cX8_keep 43 = .ok (.getfield 19, 3) := by decide +kernel
theorem dX8_keep_46 : decode cX8_keep 46 = .ok (.iload_n 2, 1) := by decide +kernel
theorem dX8_keep_47 : decode cX8_keep 47 = .ok (.iaload, 1) := by decide +kernel
theorem dX8_keep_48 : decode cX8_keep 48 = .ok (.iastore, 1) := by decide +kernel
theorem dX8_keep_49 : decode cX8_keep 49 = .ok (.iinc 2 1, 3) := by decide +kernel
theorem dX8_keep_52 : decode cX8_keep 52 = .ok (.goto (-26), 3) := by decide +kernel
theorem dX8_keep_55 : decode cX8_keep 55 = .ok (.aload_n 0, 1) := by decide +kernel
theorem dX8_keep_56 : decode cX8_keep 56 = .ok (.getfield 19, 3) := by decide +kernel
theorem dX8_keep_59 : decode cX8_keep 59 = .ok (.iconst 3, 1) := by decide +kernel
theorem dX8_keep_60 : decode cX8_keep 60 = .ok (.iaload, 1) := by decide +kernel
theorem dX8_keep_61 : decode cX8_keep 61 = .ok (.ireturn, 1) := by decide +kernel
theorem dX8_again_0 : decode cX8_again 0 = .ok (.aload_n 0, 1) := by decide +kernel
theorem dX8_again_1 : decode cX8_again 1 = .ok (.iconst 0, 1) := by decide +kernel
theorem dX8_again_2 : decode cX8_again 2 = .ok (.putfield 58, 3) := by decide +kernel
theorem dX8_again_5 : decode cX8_again 5 = .ok (.iload_n 1, 1) := by decide +kernel
theorem dX8_again_6 : decode cX8_again 6 = .ok (.i2l, 1) := by decide +kernel
theorem dX8_again_7 : decode cX8_again 7 = .ok (.lconst 0, 1) := by decide +kernel
theorem dX8_again_8 : decode cX8_again 8 = .ok (.lconst 1, 1) := by decide +kernel
theorem dX8_again_9 : decode cX8_again 9 = .ok (.invokestatic 61, 3) := by decide +kernel
theorem dX8_again_12 : decode cX8_again 12 = .ok (.ifCond .ne 5, 3) := by decide +kernel
theorem dX8_again_15 : decode cX8_again 15 = .ok (.iconst (-1), 1) := by decide +kernel
theorem dX8_again_16 : decode cX8_again 16 = .ok (.ireturn, 1) := by decide +kernel
theorem dX8_again_17 : decode cX8_again 17 = .ok (.aload_n 0, 1) := by decide +kernel
theorem dX8_again_18 : decode cX8_again 18 = .ok (.getfield 37, 3) := by decide +kernel
theorem dX8_again_21 : decode cX8_again 21 = .ok (.iload_n 1, 1) := by decide +kernel
theorem dX8_again_22 : decode cX8_again 22 = .ok (.baload, 1) := by decide +kernel
theorem dX8_again_23 : decode cX8_again 23 = .ok (.ifCond .ne 6, 3) := by decide +kernel
theorem dX8_again_26 : decode cX8_again 26 = .ok (.bipush (-3), 2) := by decide +kernel
theorem dX8_again_28 : decode cX8_again 28 = .ok (.ireturn, 1) := by decide +kernel
theorem dX8_again_29 : decode cX8_again 29 = .ok (.iconst 0, 1) := by decide +kernel
theorem dX8_again_30 : decode cX8_again 30 = .ok (.istore_n 2, 1) := by decide +kernel
theorem dX8_again_31 : decode cX8_again 31 = .ok (.iload_n 2, 1) := by decide +kernel
theorem dX8_again_32 : decode cX8_again 32 = .ok (.bipush 39, 2) := by decide +kernel
theorem dX8_again_34 : decode cX8_again 34 = .ok (.if_icmp .ge 26, 3) := by decide +kernel
theorem dX8_again_37 : decode cX8_again 37 = .ok (.aload_n 0, 1) := by decide +kernel
theorem dX8_again_38 : decode cX8_again 38 = .ok (.getfield 19, 3) := by decide +kernel
theorem dX8_again_41 : decode cX8_again 41 = .ok (.iload_n 2, 1) := by decide +kernel
theorem dX8_again_42 : decode cX8_again 42 = .ok (.aload_n 0, 1) := by decide +kernel
theorem dX8_again_43 : decode cX8_again 43 = .ok (.getfield 34, 3) := by decide +kernel
theorem dX8_again_46 : decode cX8_again 46 = .ok (.bipush 39, 2) := by decide +kernel
theorem dX8_again_48 : decode cX8_again 48 = .ok (.iload_n 1, 1) := by decide +kernel
theorem dX8_again_49 : decode cX8_again 49 = .ok (.imul, 1) := by decide +kernel
theorem dX8_again_50 : decode cX8_again 50 = .ok (.iload_n 2, 1) := by decide +kernel
theorem dX8_again_51 : decode cX8_again 51 = .ok (.iadd, 1) := by decide +kernel
theorem dX8_again_52 : decode cX8_again 52 = .ok (.iaload, 1) := by decide +kernel
theorem dX8_again_53 : decode cX8_again 53 = .ok (.iastore, 1) := by decide +kernel
theorem dX8_again_54 : decode cX8_again 54 = .ok (.iinc 2 1, 3) := by decide +kernel
theorem dX8_again_57 : decode cX8_again 57 = .ok (.goto (-26), 3) := by decide +kernel
theorem dX8_again_60 : decode cX8_again 60 = .ok (.aload_n 0, 1) := by decide +kernel
theorem dX8_again_61 : decode cX8_again 61 = .ok (.iconst 0, 1) := by decide +kernel
theorem dX8_again_62 : decode cX8_again 62 = .ok (.putfield 136, 3) := by decide +kernel
theorem dX8_again_65 : decode cX8_again 65 = .ok (.aload_n 0, 1) := by decide +kernel
theorem dX8_again_66 : decode cX8_again 66 = .ok (.getfield 19, 3) := by decide +kernel
theorem dX8_again_69 : decode cX8_again 69 = .ok (.iconst 3, 1) := by decide +kernel
theorem dX8_again_70 : decode cX8_again 70 = .ok (.iaload, 1) := by decide +kernel
theorem dX8_again_71 : decode cX8_again 71 = .ok (.ireturn, 1) := by decide +kernel
theorem dX8_count_0 : decode cX8_count 0 = .ok (.aload_n 0, 1) := by decide +kernel
theorem dX8_count_1 : decode cX8_count 1 = .ok (.iconst 0, 1) := by decide +kernel
theorem dX8_count_2 : decode cX8_count 2 = .ok (.putfield 58, 3) := by decide +kernel
theorem dX8_count_5 : decode cX8_count 5 = .ok (.iload_n 1, 1) := by decide +kernel
theorem dX8_count_6 : decode cX8_count 6 = .ok (.tableswitch 74 0 5 #[38, 43, 51, 59, 64, 69], 38) := by decide +kernel
theorem dX8_count_44 : decode cX8_count 44 = .ok (.aload_n 0, 1) := by decide +kernel
theorem dX8_count_45 : decode cX8_count 45 = .ok (.getfield 101, 3) := by decide +kernel
theorem dX8_count_48 : decode cX8_count 48 = .ok (.ireturn, 1) := by decide +kernel
theorem dX8_count_49 : decode cX8_count 49 = .ok (.aload_n 0, 1) := by decide +kernel
theorem dX8_count_50 : decode cX8_count 50 = .ok (.getfield 19, 3) := by decide +kernel
theorem dX8_count_53 : decode cX8_count 53 = .ok (.bipush 9, 2) := by decide +kernel
theorem dX8_count_55 : decode cX8_count 55 = .ok (.iaload, 1) := by decide +kernel
theorem dX8_count_56 : decode cX8_count 56 = .ok (.ireturn, 1) := by decide +kernel
theorem dX8_count_57 : decode cX8_count 57 = .ok (.aload_n 0, 1) := by decide +kernel
theorem dX8_count_58 : decode cX8_count 58 = .ok (.getfield 19, 3) := by decide +kernel
theorem dX8_count_61 : decode cX8_count 61 = .ok (.bipush 10, 2) := by decide +kernel
theorem dX8_count_63 : decode cX8_count 63 = .ok (.iaload, 1) := by decide +kernel
theorem dX8_count_64 : decode cX8_count 64 = .ok (.ireturn, 1) := by decide +kernel
theorem dX8_count_65 : decode cX8_count 65 = .ok (.aload_n 0, 1) := by decide +kernel
theorem dX8_count_66 : decode cX8_count 66 = .ok (.getfield 130, 3) := by decide +kernel
theorem dX8_count_69 : decode cX8_count 69 = .ok (.ireturn, 1) := by decide +kernel
theorem dX8_count_70 : decode cX8_count 70 = .ok (.aload_n 0, 1) := by decide +kernel
theorem dX8_count_71 : decode cX8_count 71 = .ok (.getfield 136, 3) := by decide +kernel
theorem dX8_count_74 : decode cX8_count 74 = .ok (.ireturn, 1) := by decide +kernel
theorem dX8_count_75 : decode cX8_count 75 = .ok (.aload_n 0, 1) := by decide +kernel
theorem dX8_count_76 : decode cX8_count 76 = .ok (.getfield 186, 3) := by decide +kernel
theorem dX8_count_79 : decode cX8_count 79 = .ok (.ireturn, 1) := by decide +kernel
theorem dX8_count_80 : decode cX8_count 80 = .ok (.bipush (-2), 2) := by decide +kernel
theorem dX8_count_82 : decode cX8_count 82 = .ok (.ireturn, 1) := by decide +kernel
end
section
theorem dL_law_0 : decode cL_law 0 = .ok (.new 7, 3) := by decide +kernel
theorem dL_law_3 : decode cL_law 3 = .ok (.dup, 1) := by decide +kernel
theorem dL_law_4 : decode cL_law 4 = .ok (.invokespecial 9, 3) := by decide +kernel
theorem dL_law_7 : decode cL_law 7 = .ok (.astore_n 1, 1) := by decide +kernel
theorem dL_law_8 : decode cL_law 8 = .ok (.new 10, 3) := by decide +kernel
theorem dL_law_11 : decode cL_law 11 = .ok (.dup, 1) := by decide +kernel
theorem dL_law_12 : decode cL_law 12 = .ok (.invokespecial 12, 3) := by decide +kernel
theorem dL_law_15 : decode cL_law 15 = .ok (.astore_n 2, 1) := by decide +kernel
theorem dL_law_16 : decode cL_law 16 = .ok (.iconst 0, 1) := by decide +kernel
theorem dL_law_17 : decode cL_law 17 = .ok (.istore_n 3, 1) := by decide +kernel
theorem dL_law_18 : decode cL_law 18 = .ok (.iload_n 3, 1) := by decide +kernel
theorem dL_law_19 : decode cL_law 19 = .ok (.aload_n 0, 1) := by decide +kernel
theorem dL_law_20 : decode cL_law 20 = .ok (.arraylength, 1) := by decide +kernel
theorem dL_law_21 : decode cL_law 21 = .ok (.iconst 5, 1) := by decide +kernel
theorem dL_law_22 : decode cL_law 22 = .ok (.isub, 1) := by decide +kernel
theorem dL_law_23 : decode cL_law 23 = .ok (.if_icmp .gt 822, 3) := by decide +kernel
theorem dL_law_26 : decode cL_law 26 = .ok (.aload_n 0, 1) := by decide +kernel
theorem dL_law_27 : decode cL_law 27 = .ok (.iload_n 3, 1) := by decide +kernel
theorem dL_law_28 : decode cL_law 28 = .ok (.iaload, 1) := by decide +kernel
theorem dL_law_29 : decode cL_law 29 = .ok (.bipush 31, 2) := by decide +kernel
theorem dL_law_31 : decode cL_law 31 = .ok (.iand, 1) := by decide +kernel
theorem dL_law_32 : decode cL_law 32 = .ok (.tableswitch 807 0 23 #[112, 135, 148, 161, 174, 197, 230, 263, 286, 309, 352, 365, 398, 421, 484, 517, 530, 543, 592, 661, 715, 738, 761, 784], 112) := by decide +kernel
theorem dL_law_144 : decode cL_law 144 = .ok (.aload_n 1, 1) := by decide +kernel
theorem dL_law_145 : decode cL_law 145 = .ok (.aload_n 0, 1) := by decide +kernel
theorem dL_law_146 : decode cL_law 146 = .ok (.iload_n 3, 1) := by decide +kernel
theorem dL_law_147 : decode cL_law 147 = .ok (.iconst 1, 1) := by decide +kernel
theorem dL_law_148 : decode cL_law 148 = .ok (.iadd, 1) := by decide +kernel
theorem dL_law_149 : decode cL_law 149 = .ok (.iaload, 1) := by decide +kernel
theorem dL_law_150 : decode cL_law 150 = .ok (.invokevirtual 13, 3) := by decide +kernel
theorem dL_law_153 : decode cL_law 153 = .ok (.aload_n 2, 1) := by decide +kernel
theorem dL_law_154 : decode cL_law 154 = .ok (.aload_n 0, 1) := by decide +kernel
theorem dL_law_155 : decode cL_law 155 = .ok (.iload_n 3, 1) := by decide +kernel
theorem dL_law_156 : decode cL_law 156 = .ok (.iconst 1, 1) := by decide +kernel
theorem dL_law_157 : decode cL_law 157 = .ok (.iadd, 1) := by decide +kernel
theorem dL_law_158 : decode cL_law 158 = .ok (.iaload, 1) := by decide +kernel
theorem dL_law_159 : decode cL_law 159 = .ok (.invokevirtual 17, 3) := by decide +kernel
theorem dL_law_162 : decode cL_law 162 = .ok (.if_icmp .eq 677, 3) := by decide +kernel
theorem dL_law_165 : decode cL_law 165 = .ok (.iconst 0, 1) := by decide +kernel
theorem dL_law_166 : decode cL_law 166 = .ok (.ireturn, 1) := by decide +kernel
theorem dL_law_167 : decode cL_law 167 = .ok (.aload_n 1, 1) := by decide +kernel
theorem dL_law_168 : decode cL_law 168 = .ok (.invokevirtual 18, 3) := by decide +kernel
theorem dL_law_171 : decode cL_law 171 = .ok (.aload_n 2, 1) := by decide +kernel
theorem dL_law_172 : decode cL_law 172 = .ok (.invokevirtual 22, 3) := by decide +kernel
theorem dL_law_175 : decode cL_law 175 = .ok (.if_icmp .eq 664, 3) := by decide +kernel
theorem dL_law_178 : decode cL_law 178 = .ok (.iconst 0, 1) := by decide +kernel
theorem dL_law_179 : decode cL_law 179 = .ok (.ireturn, 1) := by decide +kernel
theorem dL_law_180 : decode cL_law 180 = .ok (.aload_n 1, 1) := by decide +kernel
theorem dL_law_181 : decode cL_law 181 = .ok (.invokevirtual 23, 3) := by decide +kernel
theorem dL_law_184 : decode cL_law 184 = .ok (.aload_n 2, 1) := by decide +kernel
theorem dL_law_185 : decode cL_law 185 = .ok (.invokevirtual 26, 3) := by decide +kernel
theorem dL_law_188 : decode cL_law 188 = .ok (.if_icmp .eq 651, 3) := by decide +kernel
theorem dL_law_191 : decode cL_law 191 = .ok (.iconst 0, 1) := by decide +kernel
theorem dL_law_192 : decode cL_law 192 = .ok (.ireturn, 1) := by decide +kernel
theorem dL_law_193 : decode cL_law 193 = .ok (.aload_n 1, 1) := by decide +kernel
theorem dL_law_194 : decode cL_law 194 = .ok (.invokevirtual 27, 3) := by decide +kernel
theorem dL_law_197 : decode cL_law 197 = .ok (.aload_n 2, 1) := by decide +kernel
theorem dL_law_198 : decode cL_law 198 = .ok (.invokevirtual 30, 3) := by decide +kernel
theorem dL_law_201 : decode cL_law 201 = .ok (.if_icmp .eq 638, 3) := by decide +kernel
theorem dL_law_204 : decode cL_law 204 = .ok (.iconst 0, 1) := by decide +kernel
theorem dL_law_205 : decode cL_law 205 = .ok (.ireturn, 1) := by decide +kernel
theorem dL_law_206 : decode cL_law 206 = .ok (.aload_n 1, 1) := by decide +kernel
theorem dL_law_207 : decode cL_law 207 = .ok (.aload_n 0, 1) := by decide +kernel
theorem dL_law_208 : decode cL_law 208 = .ok (.iload_n 3, 1) := by decide +kernel
theorem dL_law_209 : decode cL_law 209 = .ok (.iconst 1, 1) := by decide +kernel
theorem dL_law_210 : decode cL_law 210 = .ok (.iadd, 1) := by decide +kernel
theorem dL_law_211 : decode cL_law 211 = .ok (.iaload, 1) := by decide +kernel
theorem dL_law_212 : decode cL_law 212 = .ok (.invokevirtual 31, 3) := by decide +kernel
theorem dL_law_215 : decode cL_law 215 = .ok (.aload_n 2, 1) := by decide +kernel
theorem dL_law_216 : decode cL_law 216 = .ok (.aload_n 0, 1) := by decide +kernel
theorem dL_law_217 : decode cL_law 217 = .ok (.iload_n 3, 1) := by decide +kernel
theorem dL_law_218 : decode cL_law 218 = .ok (.iconst 1, 1) := by decide +kernel
theorem dL_law_219 : decode cL_law 219 = .ok (.iadd, 1) := by decide +kernel
theorem dL_law_220 : decode cL_law 220 = .ok (.iaload, 1) := by decide +kernel
theorem dL_law_221 : decode cL_law 221 = .ok (.invokevirtual 34, 3) := by decide +kernel
theorem dL_law_224 : decode cL_law 224 = .ok (.if_icmp .eq 615, 3) := by decide +kernel
theorem dL_law_227 : decode cL_law 227 = .ok (.iconst 0, 1) := by decide +kernel
theorem dL_law_228 : decode cL_law 228 = .ok (.ireturn, 1) := by decide +kernel
theorem dL_law_229 : decode cL_law 229 = .ok (.aload_n 1, 1) := by decide +kernel
theorem dL_law_230 : decode cL_law 230 = .ok (.aload_n 0, 1) := by decide +kernel
theorem dL_law_231 : decode cL_law 231 = .ok (.iload_n 3, 1) := by decide +kernel
theorem dL_law_232 : decode cL_law 232 = .ok (.iconst 1, 1) := by decide +kernel
theorem dL_law_233 : decode cL_law 233 = .ok (.iadd, 1) := by decide +kernel
theorem dL_law_234 : decode cL_law 234 = .ok (.iaload, 1) := by decide +kernel
theorem dL_law_235 : decode cL_law 235 = .ok (.aload_n 0, 1) := by decide +kernel
theorem dL_law_236 : decode cL_law 236 = .ok (.iload_n 3, 1) := by decide +kernel
theorem dL_law_237 : decode cL_law 237 = .ok (.iconst 2, 1) := by decide +kernel
theorem dL_law_238 : decode cL_law 238 = .ok (.iadd, 1) := by decide +kernel
theorem dL_law_239 : decode cL_law 239 = .ok (.iaload, 1) := by decide +kernel
theorem dL_law_240 : decode cL_law 240 = .ok (.invokevirtual 35, 3) := by decide +kernel
theorem dL_law_243 : decode cL_law 243 = .ok (.aload_n 2, 1) := by decide +kernel
theorem dL_law_244 : decode cL_law 244 = .ok (.aload_n 0, 1) := by decide +kernel
theorem dL_law_245 : decode cL_law 245 = .ok (.iload_n 3, 1) := by decide +kernel
theorem dL_law_246 : decode cL_law 246 = .ok (.iconst 1, 1) := by decide +kernel
theorem dL_law_247 : decode cL_law 247 = .ok (.iadd, 1) := by decide +kernel
theorem dL_law_248 : decode cL_law 248 = .ok (.iaload, 1) := by decide +kernel
theorem dL_law_249 : decode cL_law 249 = .ok (.aload_n 0, 1) := by decide +kernel
theorem dL_law_250 : decode cL_law 250 = .ok (.iload_n 3, 1) := by decide +kernel
theorem dL_law_251 : decode cL_law 251 = .ok (.iconst 2, 1) := by decide +kernel
theorem dL_law_252 : decode cL_law 252 = .ok (.iadd, 1) := by decide +kernel
theorem dL_law_253 : decode cL_law 253 = .ok (.iaload, 1) := by decide +kernel
theorem dL_law_254 : decode cL_law 254 = .ok (.invokevirtual 39, 3) := by decide +kernel
theorem dL_law_257 : decode cL_law 257 = .ok (.if_icmp .eq 582, 3) := by decide +kernel
theorem dL_law_260 : decode cL_law 260 = .ok (.iconst 0, 1) := by decide +kernel
theorem dL_law_261 : decode cL_law 261 = .ok (.ireturn, 1) := by decide +kernel
theorem dL_law_262 : decode cL_law 262 = .ok (.aload_n 1, 1) := by decide +kernel
theorem dL_law_263 : decode cL_law 263 = .ok (.aload_n 0, 1) := by decide +kernel
theorem dL_law_264 : decode cL_law 264 = .ok (.iload_n 3, 1) := by decide +kernel
theorem dL_law_265 : decode cL_law 265 = .ok (.iconst 1, 1) := by decide +kernel
theorem dL_law_266 : decode cL_law 266 = .ok (.iadd, 1) := by decide +kernel
theorem dL_law_267 : decode cL_law 267 = .ok (.iaload, 1) := by decide +kernel
theorem dL_law_268 : decode cL_law 268 = .ok (.aload_n 0, 1) := by decide +kernel
theorem dL_law_269 : decode cL_law 269 = .ok (.iload_n 3, 1) := by decide +kernel
theorem dL_law_270 : decode cL_law 270 = .ok (.iconst 2, 1) := by decide +kernel
theorem dL_law_271 : decode cL_law 271 = .ok (.iadd, 1) := by decide +kernel
theorem dL_law_272 : decode cL_law 272 = .ok (.iaload, 1) := by decide +kernel
theorem dL_law_273 : decode cL_law 273 = .ok (.invokevirtual 40, 3) := by decide +kernel
theorem dL_law_276 : decode cL_law 276 = .ok (.aload_n 2, 1) := by decide +kernel
theorem dL_law_277 : decode cL_law 277 = .ok (.aload_n 0, 1) := by decide +kernel
theorem dL_law_278 : decode cL_law 278 = .ok (.iload_n 3, 1) := by decide +kernel
theorem dL_law_279 : decode cL_law 279 = .ok (.iconst 1, 1) := by decide +kernel
theorem dL_law_280 : decode cL_law 280 = .ok (.iadd, 1) := by decide +kernel
theorem dL_law_281 : decode cL_law 281 = .ok (.iaload, 1) := by decide +kernel
theorem dL_law_282 : decode cL_law 282 = .ok (.aload_n 0, 1) := by decide +kernel
theorem dL_law_283 : decode cL_law 283 = .ok (.iload_n 3, 1) := by decide +kernel
theorem dL_law_284 : decode cL_law 284 = .ok (.iconst 2, 1) := by decide +kernel
theorem dL_law_285 : decode cL_law 285 = .ok (.iadd, 1) := by decide +kernel
theorem dL_law_286 : decode cL_law 286 = .ok (.iaload, 1) := by decide +kernel
theorem dL_law_287 : decode cL_law 287 = .ok (.invokevirtual 43, 3) := by decide +kernel
theorem dL_law_290 : decode cL_law 290 = .ok (.if_icmp .eq 549, 3) := by decide +kernel
theorem dL_law_293 : decode cL_law 293 = .ok (.iconst 0, 1) := by decide +kernel
theorem dL_law_294 : decode cL_law 294 = .ok (.ireturn, 1) := by decide +kernel
theorem dL_law_295 : decode cL_law 295 = .ok (.aload_n 1, 1) := by decide +kernel
theorem dL_law_296 : decode cL_law 296 = .ok (.aload_n 0, 1) := by decide +kernel
theorem dL_law_297 : decode cL_law 297 = .ok (.iload_n 3, 1) := by decide +kernel
theorem dL_law_298 : decode cL_law 298 = .ok (.iconst 1, 1) := by decide +kernel
theorem dL_law_299 : decode cL_law 299 = .ok (.iadd, 1) := by decide +kernel
theorem dL_law_300 : decode cL_law 300 = .ok (.iaload, 1) := by decide +kernel
theorem dL_law_301 : decode cL_law 301 = .ok (.invokevirtual 44, 3) := by decide +kernel
theorem dL_law_304 : decode cL_law 304 = .ok (.aload_n 2, 1) := by decide +kernel
theorem dL_law_305 : decode cL_law 305 = .ok (.aload_n 0, 1) := by decide +kernel
theorem dL_law_306 : decode cL_law 306 = .ok (.iload_n 3, 1) := by decide +kernel
theorem dL_law_307 : decode cL_law 307 = .ok (.iconst 1, 1) := by decide +kernel
theorem dL_law_308 : decode cL_law 308 = .ok (.iadd, 1) := by decide +kernel
theorem dL_law_309 : decode cL_law 309 = .ok (.iaload, 1) := by decide +kernel
theorem dL_law_310 : decode cL_law 310 = .ok (.invokevirtual 47, 3) := by decide +kernel
theorem dL_law_313 : decode cL_law 313 = .ok (.if_icmp .eq 526, 3) := by decide +kernel
theorem dL_law_316 : decode cL_law 316 = .ok (.iconst 0, 1) := by decide +kernel
theorem dL_law_317 : decode cL_law 317 = .ok (.ireturn, 1) := by decide +kernel
theorem dL_law_318 : decode cL_law 318 = .ok (.aload_n 1, 1) := by decide +kernel
theorem dL_law_319 : decode cL_law 319 = .ok (.aload_n 0, 1) := by decide +kernel
theorem dL_law_320 : decode cL_law 320 = .ok (.iload_n 3, 1) := by decide +kernel
theorem dL_law_321 : decode cL_law 321 = .ok (.iconst 1, 1) := by decide +kernel
theorem dL_law_322 : decode cL_law 322 = .ok (.iadd, 1) := by decide +kernel
theorem dL_law_323 : decode cL_law 323 = .ok (.iaload, 1) := by decide +kernel
theorem dL_law_324 : decode cL_law 324 = .ok (.invokevirtual 48, 3) := by decide +kernel
theorem dL_law_327 : decode cL_law 327 = .ok (.aload_n 2, 1) := by decide +kernel
theorem dL_law_328 : decode cL_law 328 = .ok (.aload_n 0, 1) := by decide +kernel
theorem dL_law_329 : decode cL_law 329 = .ok (.iload_n 3, 1) := by decide +kernel
theorem dL_law_330 : decode cL_law 330 = .ok (.iconst 1, 1) := by decide +kernel
theorem dL_law_331 : decode cL_law 331 = .ok (.iadd, 1) := by decide +kernel
theorem dL_law_332 : decode cL_law 332 = .ok (.iaload, 1) := by decide +kernel
theorem dL_law_333 : decode cL_law 333 = .ok (.invokevirtual 51, 3) := by decide +kernel
theorem dL_law_336 : decode cL_law 336 = .ok (.if_icmp .eq 503, 3) := by decide +kernel
theorem dL_law_339 : decode cL_law 339 = .ok (.iconst 0, 1) := by decide +kernel
theorem dL_law_340 : decode cL_law 340 = .ok (.ireturn, 1) := by decide +kernel
theorem dL_law_341 : decode cL_law 341 = .ok (.aload_n 1, 1) := by decide +kernel
theorem dL_law_342 : decode cL_law 342 = .ok (.aload_n 0, 1) := by decide +kernel
theorem dL_law_343 : decode cL_law 343 = .ok (.iload_n 3, 1) := by decide +kernel
theorem dL_law_344 : decode cL_law 344 = .ok (.iconst 1, 1) := by decide +kernel
theorem dL_law_345 : decode cL_law 345 = .ok (.iadd, 1) := by decide +kernel
theorem dL_law_346 : decode cL_law 346 = .ok (.iaload, 1) := by decide +kernel
theorem dL_law_347 : decode cL_law 347 = .ok (.aload_n 0, 1) := by decide +kernel
theorem dL_law_348 : decode cL_law 348 = .ok (.iload_n 3, 1) := by decide +kernel
theorem dL_law_349 : decode cL_law 349 = .ok (.iconst 2, 1) := by decide +kernel
theorem dL_law_350 : decode cL_law 350 = .ok (.iadd, 1) := by decide +kernel
theorem dL_law_351 : decode cL_law 351 = .ok (.iaload, 1) := by decide +kernel
theorem dL_law_352 : decode cL_law 352 = .ok (.aload_n 0, 1) := by decide +kernel
theorem dL_law_353 : decode cL_law 353 = .ok (.iload_n 3, 1) := by decide +kernel
theorem dL_law_354 : decode cL_law 354 = .ok (.iconst 3, 1) := by decide +kernel
theorem dL_law_355 : decode cL_law 355 = .ok (.iadd, 1) := by decide +kernel
theorem dL_law_356 : decode cL_law 356 = .ok (.iaload, 1) := by decide +kernel
theorem dL_law_357 : decode cL_law 357 = .ok (.invokevirtual 52, 3) := by decide +kernel
theorem dL_law_360 : decode cL_law 360 = .ok (.aload_n 2, 1) := by decide +kernel
theorem dL_law_361 : decode cL_law 361 = .ok (.aload_n 0, 1) := by decide +kernel
theorem dL_law_362 : decode cL_law 362 = .ok (.iload_n 3, 1) := by decide +kernel
theorem dL_law_363 : decode cL_law 363 = .ok (.iconst 1, 1) := by decide +kernel
theorem dL_law_364 : decode cL_law 364 = .ok (.iadd, 1) := by decide +kernel
theorem dL_law_365 : decode cL_law 365 = .ok (.iaload, 1) := by decide +kernel
theorem dL_law_366 : decode cL_law 366 = .ok (.aload_n 0, 1) := by decide +kernel
theorem dL_law_367 : decode cL_law 367 = .ok (.iload_n 3, 1) := by decide +kernel
theorem dL_law_368 : decode cL_law 368 = .ok (.iconst 2, 1) := by decide +kernel
theorem dL_law_369 : decode cL_law 369 = .ok (.iadd, 1) := by decide +kernel
theorem dL_law_370 : decode cL_law 370 = .ok (.iaload, 1) := by decide +kernel
theorem dL_law_371 : decode cL_law 371 = .ok (.aload_n 0, 1) := by decide +kernel
theorem dL_law_372 : decode cL_law 372 = .ok (.iload_n 3, 1) := by decide +kernel
theorem dL_law_373 : decode cL_law 373 = .ok (.iconst 3, 1) := by decide +kernel
theorem dL_law_374 : decode cL_law 374 = .ok (.iadd, 1) := by decide +kernel
theorem dL_law_375 : decode cL_law 375 = .ok (.iaload, 1) := by decide +kernel
theorem dL_law_376 : decode cL_law 376 = .ok (.invokevirtual 56, 3) := by decide +kernel
theorem dL_law_379 : decode cL_law 379 = .ok (.if_icmp .eq 460, 3) := by decide +kernel
theorem dL_law_382 : decode cL_law 382 = .ok (.iconst 0, 1) := by decide +kernel
theorem dL_law_383 : decode cL_law 383 = .ok (.ireturn, 1) := by decide +kernel
theorem dL_law_384 : decode cL_law 384 = .ok (.aload_n 1, 1) := by decide +kernel
theorem dL_law_385 : decode cL_law 385 = .ok (.invokevirtual 57, 3) := by decide +kernel
theorem dL_law_388 : decode cL_law 388 = .ok (.aload_n 2, 1) := by decide +kernel
theorem dL_law_389 : decode cL_law 389 = .ok (.invokevirtual 60, 3) := by decide +kernel
theorem dL_law_392 : decode cL_law 392 = .ok (.if_icmp .eq 447, 3) := by decide +kernel
theorem dL_law_395 : decode cL_law 395 = .ok (.iconst 0, 1) := by decide +kernel
theorem dL_law_396 : decode cL_law 396 = .ok (.ireturn, 1) := by decide +kernel
theorem dL_law_397 : decode cL_law 397 = .ok (.aload_n 1, 1) := by decide +kernel
theorem dL_law_398 : decode cL_law 398 = .ok (.aload_n 0, 1) := by decide +kernel
theorem dL_law_399 : decode cL_law 399 = .ok (.iload_n 3, 1) := by decide +kernel
theorem dL_law_400 : decode cL_law 400 = .ok (.iconst 1, 1) := by decide +kernel
theorem dL_law_401 : decode cL_law 401 = .ok (.iadd, 1) := by decide +kernel
theorem dL_law_402 : decode cL_law 402 = .ok (.iaload, 1) := by decide +kernel
theorem dL_law_403 : decode cL_law 403 = .ok (.aload_n 0, 1) := by decide +kernel
theorem dL_law_404 : decode cL_law 404 = .ok (.iload_n 3, 1) := by decide +kernel
theorem dL_law_405 : decode cL_law 405 = .ok (.iconst 2, 1) := by decide +kernel
theorem dL_law_406 : decode cL_law 406 = .ok (.iadd, 1) := by decide +kernel
theorem dL_law_407 : decode cL_law 407 = .ok (.iaload, 1) := by decide +kernel
theorem dL_law_408 : decode cL_law 408 = .ok (.invokevirtual 61, 3) := by decide +kernel
theorem dL_law_411 : decode cL_law 411 = .ok (.aload_n 2, 1) := by decide +kernel
theorem dL_law_412 : decode cL_law 412 = .ok (.aload_n 0, 1) := by decide +kernel
theorem dL_law_413 : decode cL_law 413 = .ok (.iload_n 3, 1) := by decide +kernel
theorem dL_law_414 : decode cL_law 414 = .ok (.iconst 1, 1) := by decide +kernel
theorem dL_law_415 : decode cL_law 415 = .ok (.iadd, 1) := by decide +kernel
theorem dL_law_416 : decode cL_law 416 = .ok (.iaload, 1) := by decide +kernel
theorem dL_law_417 : decode cL_law 417 = .ok (.aload_n 0, 1) := by decide +kernel
theorem dL_law_418 : decode cL_law 418 = .ok (.iload_n 3, 1) := by decide +kernel
theorem dL_law_419 : decode cL_law 419 = .ok (.iconst 2, 1) := by decide +kernel
theorem dL_law_420 : decode cL_law 420 = .ok (.iadd, 1) := by decide +kernel
theorem dL_law_421 : decode cL_law 421 = .ok (.iaload, 1) := by decide +kernel
theorem dL_law_422 : decode cL_law 422 = .ok (.invokevirtual 64, 3) := by decide +kernel
theorem dL_law_425 : decode cL_law 425 = .ok (.if_icmp .eq 414, 3) := by decide +kernel
theorem dL_law_428 : decode cL_law 428 = .ok (.iconst 0, 1) := by decide +kernel
theorem dL_law_429 : decode cL_law 429 = .ok (.ireturn, 1) := by decide +kernel
theorem dL_law_430 : decode cL_law 430 = .ok (.aload_n 1, 1) := by decide +kernel
theorem dL_law_431 : decode cL_law 431 = .ok (.aload_n 0, 1) := by decide +kernel
theorem dL_law_432 : decode cL_law 432 = .ok (.iload_n 3, 1) := by decide +kernel
theorem dL_law_433 : decode cL_law 433 = .ok (.iconst 1, 1) := by decide +kernel
theorem dL_law_434 : decode cL_law 434 = .ok (.iadd, 1) := by decide +kernel
theorem dL_law_435 : decode cL_law 435 = .ok (.iaload, 1) := by decide +kernel
theorem dL_law_436 : decode cL_law 436 = .ok (.invokevirtual 65, 3) := by decide +kernel
theorem dL_law_439 : decode cL_law 439 = .ok (.aload_n 2, 1) := by decide +kernel
theorem dL_law_440 : decode cL_law 440 = .ok (.aload_n 0, 1) := by decide +kernel
theorem dL_law_441 : decode cL_law 441 = .ok (.iload_n 3, 1) := by decide +kernel
theorem dL_law_442 : decode cL_law 442 = .ok (.iconst 1, 1) := by decide +kernel
theorem dL_law_443 : decode cL_law 443 = .ok (.iadd, 1) := by decide +kernel
theorem dL_law_444 : decode cL_law 444 = .ok (.iaload, 1) := by decide +kernel
theorem dL_law_445 : decode cL_law 445 = .ok (.invokevirtual 68, 3) := by decide +kernel
theorem dL_law_448 : decode cL_law 448 = .ok (.if_icmp .eq 391, 3) := by decide +kernel
theorem dL_law_451 : decode cL_law 451 = .ok (.iconst 0, 1) := by decide +kernel
theorem dL_law_452 : decode cL_law 452 = .ok (.ireturn, 1) := by decide +kernel
theorem dL_law_453 : decode cL_law 453 = .ok (.aload_n 1, 1) := by decide +kernel
theorem dL_law_454 : decode cL_law 454 = .ok (.aload_n 0, 1) := by decide +kernel
theorem dL_law_455 : decode cL_law 455 = .ok (.iload_n 3, 1) := by decide +kernel
theorem dL_law_456 : decode cL_law 456 = .ok (.iconst 1, 1) := by decide +kernel
theorem dL_law_457 : decode cL_law 457 = .ok (.iadd, 1) := by decide +kernel
theorem dL_law_458 : decode cL_law 458 = .ok (.iaload, 1) := by decide +kernel
theorem dL_law_459 : decode cL_law 459 = .ok (.aload_n 0, 1) := by decide +kernel
theorem dL_law_460 : decode cL_law 460 = .ok (.iload_n 3, 1) := by decide +kernel
theorem dL_law_461 : decode cL_law 461 = .ok (.iconst 2, 1) := by decide +kernel
theorem dL_law_462 : decode cL_law 462 = .ok (.iadd, 1) := by decide +kernel
theorem dL_law_463 : decode cL_law 463 = .ok (.iaload, 1) := by decide +kernel
theorem dL_law_464 : decode cL_law 464 = .ok (.i2l, 1) := by decide +kernel
theorem dL_law_465 : decode cL_law 465 = .ok (.bipush 32, 2) := by decide +kernel
theorem dL_law_467 : decode cL_law 467 = .ok (.lshl, 1) := by decide +kernel
theorem dL_law_468 : decode cL_law 468 = .ok (.aload_n 0, 1) := by decide +kernel
theorem dL_law_469 : decode cL_law 469 = .ok (.iload_n 3, 1) := by decide +kernel
theorem dL_law_470 : decode cL_law 470 = .ok (.iconst 3, 1) := by decide +kernel
theorem dL_law_471 : decode cL_law 471 = .ok (.iadd, 1) := by decide +kernel
theorem dL_law_472 : decode cL_law 472 = .ok (.iaload, 1) := by decide +kernel
theorem dL_law_473 : decode cL_law 473 = .ok (.i2l, 1) := by decide +kernel
theorem dL_law_474 : decode cL_law 474 = .ok (.ldc2_w 69, 3) := by decide +kernel
theorem dL_law_477 : decode cL_law 477 = .ok (.land, 1) := by decide +kernel
theorem dL_law_478 : decode cL_law 478 = .ok (.lor, 1) := by decide +kernel
theorem dL_law_479 : decode cL_law 479 = .ok (.invokevirtual 71, 3) := by decide +kernel
theorem dL_law_482 : decode cL_law 482 = .ok (.aload_n 2, 1) := by decide +kernel
theorem dL_law_483 : decode cL_law 483 = .ok (.aload_n 0, 1) := by decide +kernel
theorem dL_law_484 : decode cL_law 484 = .ok (.iload_n 3, 1) := by decide +kernel
theorem dL_law_485 : decode cL_law 485 = .ok (.iconst 1, 1) := by decide +kernel
theorem dL_law_486 : decode cL_law 486 = .ok (.iadd, 1) := by decide +kernel
theorem dL_law_487 : decode cL_law 487 = .ok (.iaload, 1) := by decide +kernel
theorem dL_law_488 : decode cL_law 488 = .ok (.aload_n 0, 1) := by decide +kernel
theorem dL_law_489 : decode cL_law 489 = .ok (.iload_n 3, 1) := by decide +kernel
theorem dL_law_490 : decode cL_law 490 = .ok (.iconst 2, 1) := by decide +kernel
theorem dL_law_491 : decode cL_law 491 = .ok (.iadd, 1) := by decide +kernel
theorem dL_law_492 : decode cL_law 492 = .ok (.iaload, 1) := by decide +kernel
theorem dL_law_493 : decode cL_law 493 = .ok (.i2l, 1) := by decide +kernel
theorem dL_law_494 : decode cL_law 494 = .ok (.bipush 32, 2) := by decide +kernel
theorem dL_law_496 : decode cL_law 496 = .ok (.lshl, 1) := by decide +kernel
theorem dL_law_497 : decode cL_law 497 = .ok (.aload_n 0, 1) := by decide +kernel
theorem dL_law_498 : decode cL_law 498 = .ok (.iload_n 3, 1) := by decide +kernel
theorem dL_law_499 : decode cL_law 499 = .ok (.iconst 3, 1) := by decide +kernel
theorem dL_law_500 : decode cL_law 500 = .ok (.iadd, 1) := by decide +kernel
theorem dL_law_501 : decode cL_law 501 = .ok (.iaload, 1) := by decide +kernel
theorem dL_law_502 : decode cL_law 502 = .ok (.i2l, 1) := by decide +kernel
theorem dL_law_503 : decode cL_law 503 = .ok (.ldc2_w 69, 3) := by decide +kernel
theorem dL_law_506 : decode cL_law 506 = .ok (.land, 1) := by decide +kernel
theorem dL_law_507 : decode cL_law 507 = .ok (.lor, 1) := by decide +kernel
theorem dL_law_508 : decode cL_law 508 = .ok (.invokevirtual 75, 3) := by decide +kernel
theorem dL_law_511 : decode cL_law 511 = .ok (.if_icmp .eq 328, 3) := by decide +kernel
theorem dL_law_514 : decode cL_law 514 = .ok (.iconst 0, 1) := by decide +kernel
theorem dL_law_515 : decode cL_law 515 = .ok (.ireturn, 1) := by decide +kernel
theorem dL_law_516 : decode cL_law 516 = .ok (.aload_n 1, 1) := by decide +kernel
theorem dL_law_517 : decode cL_law 517 = .ok (.aload_n 0, 1) := by decide +kernel
theorem dL_law_518 : decode cL_law 518 = .ok (.iload_n 3, 1) := by decide +kernel
theorem dL_law_519 : decode cL_law 519 = .ok (.iconst 1, 1) := by decide +kernel
theorem dL_law_520 : decode cL_law 520 = .ok (.iadd, 1) := by decide +kernel
theorem dL_law_521 : decode cL_law 521 = .ok (.iaload, 1) := by decide +kernel
theorem dL_law_522 : decode cL_law 522 = .ok (.aload_n 0, 1) := by decide +kernel
theorem dL_law_523 : decode cL_law 523 = .ok (.iload_n 3, 1) := by decide +kernel
theorem dL_law_524 : decode cL_law 524 = .ok (.iconst 2, 1) := by decide +kernel
theorem dL_law_525 : decode cL_law 525 = .ok (.iadd, 1) := by decide +kernel
theorem dL_law_526 : decode cL_law 526 = .ok (.iaload, 1) := by decide +kernel
theorem dL_law_527 : decode cL_law 527 = .ok (.invokevirtual 76, 3) := by decide +kernel
theorem dL_law_530 : decode cL_law 530 = .ok (.aload_n 2, 1) := by decide +kernel
theorem dL_law_531 : decode cL_law 531 = .ok (.aload_n 0, 1) := by decide +kernel
theorem dL_law_532 : decode cL_law 532 = .ok (.iload_n 3, 1) := by decide +kernel
theorem dL_law_533 : decode cL_law 533 = .ok (.iconst 1, 1) := by decide +kernel
theorem dL_law_534 : decode cL_law 534 = .ok (.iadd, 1) := by decide +kernel
theorem dL_law_535 : decode cL_law 535 = .ok (.iaload, 1) := by decide +kernel
theorem dL_law_536 : decode cL_law 536 = .ok (.aload_n 0, 1) := by decide +kernel
theorem dL_law_537 : decode cL_law 537 = .ok (.iload_n 3, 1) := by decide +kernel
theorem dL_law_538 : decode cL_law 538 = .ok (.iconst 2, 1) := by decide +kernel
theorem dL_law_539 : decode cL_law 539 = .ok (.iadd, 1) := by decide +kernel
theorem dL_law_540 : decode cL_law 540 = .ok (.iaload, 1) := by decide +kernel
theorem dL_law_541 : decode cL_law 541 = .ok (.invokevirtual 79, 3) := by decide +kernel
theorem dL_law_544 : decode cL_law 544 = .ok (.if_icmp .eq 295, 3) := by decide +kernel
theorem dL_law_547 : decode cL_law 547 = .ok (.iconst 0, 1) := by decide +kernel
theorem dL_law_548 : decode cL_law 548 = .ok (.ireturn, 1) := by decide +kernel
theorem dL_law_549 : decode cL_law 549 = .ok (.aload_n 1, 1) := by decide +kernel
theorem dL_law_550 : decode cL_law 550 = .ok (.invokevirtual 80, 3) := by decide +kernel
theorem dL_law_553 : decode cL_law 553 = .ok (.aload_n 2, 1) := by decide +kernel
theorem dL_law_554 : decode cL_law 554 = .ok (.invokevirtual 83, 3) := by decide +kernel
theorem dL_law_557 : decode cL_law 557 = .ok (.if_icmp .eq 282, 3) := by decide +kernel
theorem dL_law_560 : decode cL_law 560 = .ok (.iconst 0, 1) := by decide +kernel
theorem dL_law_561 : decode cL_law 561 = .ok (.ireturn, 1) := by decide +kernel
theorem dL_law_562 : decode cL_law 562 = .ok (.aload_n 1, 1) := by decide +kernel
theorem dL_law_563 : decode cL_law 563 = .ok (.invokevirtual 84, 3) := by decide +kernel
theorem dL_law_566 : decode cL_law 566 = .ok (.aload_n 2, 1) := by decide +kernel
theorem dL_law_567 : decode cL_law 567 = .ok (.invokevirtual 87, 3) := by decide +kernel
theorem dL_law_570 : decode cL_law 570 = .ok (.if_icmp .eq 269, 3) := by decide +kernel
theorem dL_law_573 : decode cL_law 573 = .ok (.iconst 0, 1) := by decide +kernel
theorem dL_law_574 : decode cL_law 574 = .ok (.ireturn, 1) := by decide +kernel
theorem dL_law_575 : decode cL_law 575 = .ok (.aload_n 1, 1) := by decide +kernel
theorem dL_law_576 : decode cL_law 576 = .ok (.aload_n 0, 1) := by decide +kernel
theorem dL_law_577 : decode cL_law 577 = .ok (.iload_n 3, 1) := by decide +kernel
theorem dL_law_578 : decode cL_law 578 = .ok (.iconst 1, 1) := by decide +kernel
theorem dL_law_579 : decode cL_law 579 = .ok (.iadd, 1) := by decide +kernel
theorem dL_law_580 : decode cL_law 580 = .ok (.iaload, 1) := by decide +kernel
theorem dL_law_581 : decode cL_law 581 = .ok (.aload_n 0, 1) := by decide +kernel
theorem dL_law_582 : decode cL_law 582 = .ok (.iload_n 3, 1) := by decide +kernel
theorem dL_law_583 : decode cL_law 583 = .ok (.iconst 2, 1) := by decide +kernel
theorem dL_law_584 : decode cL_law 584 = .ok (.iadd, 1) := by decide +kernel
theorem dL_law_585 : decode cL_law 585 = .ok (.iaload, 1) := by decide +kernel
theorem dL_law_586 : decode cL_law 586 = .ok (.ifCond .eq 7, 3) := by decide +kernel
theorem dL_law_589 : decode cL_law 589 = .ok (.iconst 1, 1) := by decide +kernel
theorem dL_law_590 : decode cL_law 590 = .ok (.goto 4, 3) := by decide +kernel
theorem dL_law_593 : decode cL_law 593 = .ok (.iconst 0, 1) := by decide +kernel
theorem dL_law_594 : decode cL_law 594 = .ok (.invokevirtual 88, 3) := by decide +kernel
theorem dL_law_597 : decode cL_law 597 = .ok (.aload_n 2, 1) := by decide +kernel
theorem dL_law_598 : decode cL_law 598 = .ok (.aload_n 0, 1) := by decide +kernel
theorem dL_law_599 : decode cL_law 599 = .ok (.iload_n 3, 1) := by decide +kernel
theorem dL_law_600 : decode cL_law 600 = .ok (.iconst 1, 1) := by decide +kernel
theorem dL_law_601 : decode cL_law 601 = .ok (.iadd, 1) := by decide +kernel
theorem dL_law_602 : decode cL_law 602 = .ok (.iaload, 1) := by decide +kernel
theorem dL_law_603 : decode cL_law 603 = .ok (.aload_n 0, 1) := by decide +kernel
theorem dL_law_604 : decode cL_law 604 = .ok (.iload_n 3, 1) := by decide +kernel
theorem dL_law_605 : decode cL_law 605 = .ok (.iconst 2, 1) := by decide +kernel
theorem dL_law_606 : decode cL_law 606 = .ok (.iadd, 1) := by decide +kernel
theorem dL_law_607 : decode cL_law 607 = .ok (.iaload, 1) := by decide +kernel
theorem dL_law_608 : decode cL_law 608 = .ok (.ifCond .eq 7, 3) := by decide +kernel
theorem dL_law_611 : decode cL_law 611 = .ok (.iconst 1, 1) := by decide +kernel
theorem dL_law_612 : decode cL_law 612 = .ok (.goto 4, 3) := by decide +kernel
theorem dL_law_615 : decode cL_law 615 = .ok (.iconst 0, 1) := by decide +kernel
theorem dL_law_616 : decode cL_law 616 = .ok (.invokevirtual 92, 3) := by decide +kernel
theorem dL_law_619 : decode cL_law 619 = .ok (.if_icmp .eq 220, 3) := by decide +kernel
theorem dL_law_622 : decode cL_law 622 = .ok (.iconst 0, 1) := by decide +kernel
theorem dL_law_623 : decode cL_law 623 = .ok (.ireturn, 1) := by decide +kernel
theorem dL_law_624 : decode cL_law 624 = .ok (.aload_n 1, 1) := by decide +kernel
theorem dL_law_625 : decode cL_law 625 = .ok (.aload_n 0, 1) := by decide +kernel
theorem dL_law_626 : decode cL_law 626 = .ok (.iload_n 3, 1) := by decide +kernel
theorem dL_law_627 : decode cL_law 627 = .ok (.iconst 1, 1) := by decide +kernel
theorem dL_law_628 : decode cL_law 628 = .ok (.iadd, 1) := by decide +kernel
theorem dL_law_629 : decode cL_law 629 = .ok (.iaload, 1) := by decide +kernel
theorem dL_law_630 : decode cL_law 630 = .ok (.aload_n 0, 1) := by decide +kernel
theorem dL_law_631 : decode cL_law 631 = .ok (.iload_n 3, 1) := by decide +kernel
theorem dL_law_632 : decode cL_law 632 = .ok (.iconst 2, 1) := by decide +kernel
theorem dL_law_633 : decode cL_law 633 = .ok (.iadd, 1) := by decide +kernel
theorem dL_law_634 : decode cL_law 634 = .ok (.iaload, 1) := by decide +kernel
theorem dL_law_635 : decode cL_law 635 = .ok (.aload_n 0, 1) := by decide +kernel
theorem dL_law_636 : decode cL_law 636 = .ok (.iload_n 3, 1) := by decide +kernel
theorem dL_law_637 : decode cL_law 637 = .ok (.iconst 3, 1) := by decide +kernel
theorem dL_law_638 : decode cL_law 638 = .ok (.iadd, 1) := by decide +kernel
theorem dL_law_639 : decode cL_law 639 = .ok (.iaload, 1) := by decide +kernel
theorem dL_law_640 : decode cL_law 640 = .ok (.aload_n 0, 1) := by decide +kernel
theorem dL_law_641 : decode cL_law 641 = .ok (.iload_n 3, 1) := by decide +kernel
theorem dL_law_642 : decode cL_law 642 = .ok (.iconst 4, 1) := by decide +kernel
theorem dL_law_643 : decode cL_law 643 = .ok (.iadd, 1) := by decide +kernel
theorem dL_law_644 : decode cL_law 644 = .ok (.iaload, 1) := by decide +kernel
theorem dL_law_645 : decode cL_law 645 = .ok (.ifCond .eq 7, 3) := by decide +kernel
theorem dL_law_648 : decode cL_law 648 = .ok (.iconst 1, 1) := by decide +kernel
theorem dL_law_649 : decode cL_law 649 = .ok (.goto 4, 3) := by decide +kernel
theorem dL_law_652 : decode cL_law 652 = .ok (.iconst 0, 1) := by decide +kernel
theorem dL_law_653 : decode cL_law 653 = .ok (.invokevirtual 93, 3) := by decide +kernel
theorem dL_law_656 : decode cL_law 656 = .ok (.aload_n 2, 1) := by decide +kernel
theorem dL_law_657 : decode cL_law 657 = .ok (.aload_n 0, 1) := by decide +kernel
theorem dL_law_658 : decode cL_law 658 = .ok (.iload_n 3, 1) := by decide +kernel
theorem dL_law_659 : decode cL_law 659 = .ok (.iconst 1, 1) := by decide +kernel
theorem dL_law_660 : decode cL_law 660 = .ok (.iadd, 1) := by decide +kernel
theorem dL_law_661 : decode cL_law 661 = .ok (.iaload, 1) := by decide +kernel
theorem dL_law_662 : decode cL_law 662 = .ok (.aload_n 0, 1) := by decide +kernel
theorem dL_law_663 : decode cL_law 663 = .ok (.iload_n 3, 1) := by decide +kernel
theorem dL_law_664 : decode cL_law 664 = .ok (.iconst 2, 1) := by decide +kernel
theorem dL_law_665 : decode cL_law 665 = .ok (.iadd, 1) := by decide +kernel
theorem dL_law_666 : decode cL_law 666 = .ok (.iaload, 1) := by decide +kernel
theorem dL_law_667 : decode cL_law 667 = .ok (.aload_n 0, 1) := by decide +kernel
theorem dL_law_668 : decode cL_law 668 = .ok (.iload_n 3, 1) := by decide +kernel
theorem dL_law_669 : decode cL_law 669 = .ok (.iconst 3, 1) := by decide +kernel
theorem dL_law_670 : decode cL_law 670 = .ok (.iadd, 1) := by decide +kernel
theorem dL_law_671 : decode cL_law 671 = .ok (.iaload, 1) := by decide +kernel
theorem dL_law_672 : decode cL_law 672 = .ok (.aload_n 0, 1) := by decide +kernel
theorem dL_law_673 : decode cL_law 673 = .ok (.iload_n 3, 1) := by decide +kernel
theorem dL_law_674 : decode cL_law 674 = .ok (.iconst 4, 1) := by decide +kernel
theorem dL_law_675 : decode cL_law 675 = .ok (.iadd, 1) := by decide +kernel
theorem dL_law_676 : decode cL_law 676 = .ok (.iaload, 1) := by decide +kernel
theorem dL_law_677 : decode cL_law 677 = .ok (.ifCond .eq 7, 3) := by decide +kernel
theorem dL_law_680 : decode cL_law 680 = .ok (.iconst 1, 1) := by decide +kernel
theorem dL_law_681 : decode cL_law 681 = .ok (.goto 4, 3) := by decide +kernel
theorem dL_law_684 : decode cL_law 684 = .ok (.iconst 0, 1) := by decide +kernel
theorem dL_law_685 : decode cL_law 685 = .ok (.invokevirtual 97, 3) := by decide +kernel
theorem dL_law_688 : decode cL_law 688 = .ok (.if_icmp .eq 151, 3) := by decide +kernel
theorem dL_law_691 : decode cL_law 691 = .ok (.iconst 0, 1) := by decide +kernel
theorem dL_law_692 : decode cL_law 692 = .ok (.ireturn, 1) := by decide +kernel
theorem dL_law_693 : decode cL_law 693 = .ok (.aload_n 1, 1) := by decide +kernel
theorem dL_law_694 : decode cL_law 694 = .ok (.aload_n 0, 1) := by decide +kernel
theorem dL_law_695 : decode cL_law 695 = .ok (.iload_n 3, 1) := by decide +kernel
theorem dL_law_696 : decode cL_law 696 = .ok (.iconst 1, 1) := by decide +kernel
theorem dL_law_697 : decode cL_law 697 = .ok (.iadd, 1) := by decide +kernel
theorem dL_law_698 : decode cL_law 698 = .ok (.iaload, 1) := by decide +kernel
theorem dL_law_699 : decode cL_law 699 = .ok (.i2l, 1) := by decide +kernel
theorem dL_law_700 : decode cL_law 700 = .ok (.bipush 32, 2) := by decide +kernel
theorem dL_law_702 : decode cL_law 702 = .ok (.lshl, 1) := by decide +kernel
theorem dL_law_703 : decode cL_law 703 = .ok (.aload_n 0, 1) := by decide +kernel
theorem dL_law_704 : decode cL_law 704 = .ok (.iload_n 3, 1) := by decide +kernel
theorem dL_law_705 : decode cL_law 705 = .ok (.iconst 2, 1) := by decide +kernel
theorem dL_law_706 : decode cL_law 706 = .ok (.iadd, 1) := by decide +kernel
theorem dL_law_707 : decode cL_law 707 = .ok (.iaload, 1) := by decide +kernel
theorem dL_law_708 : decode cL_law 708 = .ok (.i2l, 1) := by decide +kernel
theorem dL_law_709 : decode cL_law 709 = .ok (.ldc2_w 69, 3) := by decide +kernel
theorem dL_law_712 : decode cL_law 712 = .ok (.land, 1) := by decide +kernel
theorem dL_law_713 : decode cL_law 713 = .ok (.lor, 1) := by decide +kernel
theorem dL_law_714 : decode cL_law 714 = .ok (.invokevirtual 98, 3) := by decide +kernel
theorem dL_law_717 : decode cL_law 717 = .ok (.aload_n 2, 1) := by decide +kernel
theorem dL_law_718 : decode cL_law 718 = .ok (.aload_n 0, 1) := by decide +kernel
theorem dL_law_719 : decode cL_law 719 = .ok (.iload_n 3, 1) := by decide +kernel
theorem dL_law_720 : decode cL_law 720 = .ok (.iconst 1, 1) := by decide +kernel
theorem dL_law_721 : decode cL_law 721 = .ok (.iadd, 1) := by decide +kernel
theorem dL_law_722 : decode cL_law 722 = .ok (.iaload, 1) := by decide +kernel
theorem dL_law_723 : decode cL_law 723 = .ok (.i2l, 1) := by decide +kernel
theorem dL_law_724 : decode cL_law 724 = .ok (.bipush 32, 2) := by decide +kernel
theorem dL_law_726 : decode cL_law 726 = .ok (.lshl, 1) := by decide +kernel
theorem dL_law_727 : decode cL_law 727 = .ok (.aload_n 0, 1) := by decide +kernel
theorem dL_law_728 : decode cL_law 728 = .ok (.iload_n 3, 1) := by decide +kernel
theorem dL_law_729 : decode cL_law 729 = .ok (.iconst 2, 1) := by decide +kernel
theorem dL_law_730 : decode cL_law 730 = .ok (.iadd, 1) := by decide +kernel
theorem dL_law_731 : decode cL_law 731 = .ok (.iaload, 1) := by decide +kernel
theorem dL_law_732 : decode cL_law 732 = .ok (.i2l, 1) := by decide +kernel
theorem dL_law_733 : decode cL_law 733 = .ok (.ldc2_w 69, 3) := by decide +kernel
theorem dL_law_736 : decode cL_law 736 = .ok (.land, 1) := by decide +kernel
theorem dL_law_737 : decode cL_law 737 = .ok (.lor, 1) := by decide +kernel
theorem dL_law_738 : decode cL_law 738 = .ok (.invokevirtual 102, 3) := by decide +kernel
theorem dL_law_741 : decode cL_law 741 = .ok (.lcmp, 1) := by decide +kernel
theorem dL_law_742 : decode cL_law 742 = .ok (.ifCond .eq 97, 3) := by decide +kernel
theorem dL_law_745 : decode cL_law 745 = .ok (.iconst 0, 1) := by decide +kernel
theorem dL_law_746 : decode cL_law 746 = .ok (.ireturn, 1) := by decide +kernel
theorem dL_law_747 : decode cL_law 747 = .ok (.aload_n 1, 1) := by decide +kernel
theorem dL_law_748 : decode cL_law 748 = .ok (.aload_n 0, 1) := by decide +kernel
theorem dL_law_749 : decode cL_law 749 = .ok (.iload_n 3, 1) := by decide +kernel
theorem dL_law_750 : decode cL_law 750 = .ok (.iconst 1, 1) := by decide +kernel
theorem dL_law_751 : decode cL_law 751 = .ok (.iadd, 1) := by decide +kernel
theorem dL_law_752 : decode cL_law 752 = .ok (.iaload, 1) := by decide +kernel
theorem dL_law_753 : decode cL_law 753 = .ok (.invokevirtual 103, 3) := by decide +kernel
theorem dL_law_756 : decode cL_law 756 = .ok (.aload_n 2, 1) := by decide +kernel
theorem dL_law_757 : decode cL_law 757 = .ok (.aload_n 0, 1) := by decide +kernel
theorem dL_law_758 : decode cL_law 758 = .ok (.iload_n 3, 1) := by decide +kernel
theorem dL_law_759 : decode cL_law 759 = .ok (.iconst 1, 1) := by decide +kernel
theorem dL_law_760 : decode cL_law 760 = .ok (.iadd, 1) := by decide +kernel
theorem dL_law_761 : decode cL_law 761 = .ok (.iaload, 1) := by decide +kernel
theorem dL_law_762 : decode cL_law 762 = .ok (.invokevirtual 106, 3) := by decide +kernel
theorem dL_law_765 : decode cL_law 765 = .ok (.if_icmp .eq 74, 3) := by decide +kernel
theorem dL_law_768 : decode cL_law 768 = .ok (.iconst 0, 1) := by decide +kernel
theorem dL_law_769 : decode cL_law 769 = .ok (.ireturn, 1) := by decide +kernel
theorem dL_law_770 : decode cL_law 770 = .ok (.aload_n 1, 1) := by decide +kernel
theorem dL_law_771 : decode cL_law 771 = .ok (.aload_n 0, 1) := by decide +kernel
theorem dL_law_772 : decode cL_law 772 = .ok (.iload_n 3, 1) := by decide +kernel
theorem dL_law_773 : decode cL_law 773 = .ok (.iconst 1, 1) := by decide +kernel
theorem dL_law_774 : decode cL_law 774 = .ok (.iadd, 1) := by decide +kernel
theorem dL_law_775 : decode cL_law 775 = .ok (.iaload, 1) := by decide +kernel
theorem dL_law_776 : decode cL_law 776 = .ok (.invokevirtual 107, 3) := by decide +kernel
theorem dL_law_779 : decode cL_law 779 = .ok (.aload_n 2, 1) := by decide +kernel
theorem dL_law_780 : decode cL_law 780 = .ok (.aload_n 0, 1) := by decide +kernel
theorem dL_law_781 : decode cL_law 781 = .ok (.iload_n 3, 1) := by decide +kernel
theorem dL_law_782 : decode cL_law 782 = .ok (.iconst 1, 1) := by decide +kernel
theorem dL_law_783 : decode cL_law 783 = .ok (.iadd, 1) := by decide +kernel
theorem dL_law_784 : decode cL_law 784 = .ok (.iaload, 1) := by decide +kernel
theorem dL_law_785 : decode cL_law 785 = .ok (.invokevirtual 110, 3) := by decide +kernel
theorem dL_law_788 : decode cL_law 788 = .ok (.if_icmp .eq 51, 3) := by decide +kernel
theorem dL_law_791 : decode cL_law 791 = .ok (.iconst 0, 1) := by decide +kernel
theorem dL_law_792 : decode cL_law 792 = .ok (.ireturn, 1) := by decide +kernel
theorem dL_law_793 : decode cL_law 793 = .ok (.aload_n 1, 1) := by decide +kernel
theorem dL_law_794 : decode cL_law 794 = .ok (.aload_n 0, 1) := by decide +kernel
theorem dL_law_795 : decode cL_law 795 = .ok (.iload_n 3, 1) := by decide +kernel
theorem dL_law_796 : decode cL_law 796 = .ok (.iconst 1, 1) := by decide +kernel
theorem dL_law_797 : decode cL_law 797 = .ok (.iadd, 1) := by decide +kernel
theorem dL_law_798 : decode cL_law 798 = .ok (.iaload, 1) := by decide +kernel
theorem dL_law_799 : decode cL_law 799 = .ok (.invokevirtual 111, 3) := by decide +kernel
theorem dL_law_802 : decode cL_law 802 = .ok (.aload_n 2, 1) := by decide +kernel
theorem dL_law_803 : decode cL_law 803 = .ok (.aload_n 0, 1) := by decide +kernel
theorem dL_law_804 : decode cL_law 804 = .ok (.iload_n 3, 1) := by decide +kernel
theorem dL_law_805 : decode cL_law 805 = .ok (.iconst 1, 1) := by decide +kernel
theorem dL_law_806 : decode cL_law 806 = .ok (.iadd, 1) := by decide +kernel
theorem dL_law_807 : decode cL_law 807 = .ok (.iaload, 1) := by decide +kernel
theorem dL_law_808 : decode cL_law 808 = .ok (.invokevirtual 114, 3) := by decide +kernel
theorem dL_law_811 : decode cL_law 811 = .ok (.if_icmp .eq 28, 3) := by decide +kernel
theorem dL_law_814 : decode cL_law 814 = .ok (.iconst 0, 1) := by decide +kernel
theorem dL_law_815 : decode cL_law 815 = .ok (.ireturn, 1) := by decide +kernel
theorem dL_law_816 : decode cL_law 816 = .ok (.aload_n 1, 1) := by decide +kernel
theorem dL_law_817 : decode cL_law 817 = .ok (.aload_n 0, 1) := by decide +kernel
theorem dL_law_818 : decode cL_law 818 = .ok (.iload_n 3, 1) := by decide +kernel
theorem dL_law_819 : decode cL_law 819 = .ok (.iconst 1, 1) := by decide +kernel
theorem dL_law_820 : decode cL_law 820 = .ok (.iadd, 1) := by decide +kernel
theorem dL_law_821 : decode cL_law 821 = .ok (.iaload, 1) := by decide +kernel
theorem dL_law_822 : decode cL_law 822 = .ok (.invokevirtual 115, 3) := by decide +kernel
theorem dL_law_825 : decode cL_law 825 = .ok (.aload_n 2, 1) := by decide +kernel
theorem dL_law_826 : decode cL_law 826 = .ok (.aload_n 0, 1) := by decide +kernel
theorem dL_law_827 : decode cL_law 827 = .ok (.iload_n 3, 1) := by decide +kernel
theorem dL_law_828 : decode cL_law 828 = .ok (.iconst 1, 1) := by decide +kernel
theorem dL_law_829 : decode cL_law 829 = .ok (.iadd, 1) := by decide +kernel
theorem dL_law_830 : decode cL_law 830 = .ok (.iaload, 1) := by decide +kernel
theorem dL_law_831 : decode cL_law 831 = .ok (.invokevirtual 118, 3) := by decide +kernel
theorem dL_law_834 : decode cL_law 834 = .ok (.if_icmp .eq 5, 3) := by decide +kernel
theorem dL_law_837 : decode cL_law 837 = .ok (.iconst 0, 1) := by decide +kernel
theorem dL_law_838 : decode cL_law 838 = .ok (.ireturn, 1) := by decide +kernel
theorem dL_law_839 : decode cL_law 839 = .ok (.iinc 3 5, 3) := by decide +kernel
theorem dL_law_842 : decode cL_law 842 = .ok (.goto (-824), 3) := by decide +kernel
theorem dL_law_845 : decode cL_law 845 = .ok (.iconst 1, 1) := by decide +kernel
theorem dL_law_846 : decode cL_law 846 = .ok (.ireturn, 1) := by decide +kernel
end
section
/-! The ghost heap: positions 0, 1, 2 .. in the order of their making; position k lies at the address b + k. -/
/-- the tables' words that every callee may use -/
def lw_g : List Cond := lw_tbl.filter goodWord
theorem mg {w : Cond} (i : Nat) (h : lw_tbl[i]? = some w) (hg : goodWord w = true) : w ∈ lw_g := List.mem_filter.mpr ⟨List.mem_of_getElem? h, hg⟩
abbrev Hp : Type := Nat → va_E
/-- a position that holds nothing yet -/
def dd : va_E := .inl (7, 0, .inl (fun _ => 0))
/-- a value with positions, as the machine has it (a float stands for the law's script) -/
def mv (b sc : Nat) : Value → Value
  | .ref k => .ref (b + k)
  | .float _ => .ref sc
  | v => v
def mA (b : Nat) (a : vp_A) : vp_A := match a with
  | (n, .inr (.inr (.inr (.inr f)))) => (n, .inr (.inr (.inr (.inr (fun i => (f i).map (fun q => b + q))))))
  | a => a
def mE (cy : Nat → ClassId) (b : Nat) (e : va_E) : va_E := match e with
  | .inl (k, a) => .inl (cy k, mA b a)
  | .inr (c, fs) => .inr (c, fs.map (mv b 0))
def wl (cy : Nat → ClassId) (b n : Nat) (F : Hp) : va_W := (List.range n).map (fun k => (b + k, mE cy b (F k)))
theorem wl_get {cy : Nat → ClassId} {b n k : Nat} {F : Hp} (h : k < n) : (wl cy b n F)[k]? = some (b + k, mE cy b (F k)) := by
  simp [wl, h]
theorem wl_at {cy : Nat → ClassId} {b n k : Nat} {F : Hp} {e : va_E} (h : k < n) (he : F k = e) : (wl cy b n F)[k]? = some (b + k, mE cy b e) := by
  rw [wl_get h, he]
theorem wl_set {cy : Nat → ClassId} {b n k : Nat} {F : Hp} {e : va_E} : (wl cy b n F).set k (b + k, mE cy b e) = wl cy b n (va_up F k e) := by
  apply List.ext_getElem?
  intro j
  by_cases hj : j = k
  · subst hj
    by_cases hn : j < n
    · rw [List.getElem?_set_self (by simp [wl]; exact hn), wl_get hn, va_up_self]
    · rw [List.getElem?_eq_none (by simp [wl]; omega), List.getElem?_eq_none (by simp [wl]; omega)]
  · rw [List.getElem?_set_ne (Ne.symm hj)]
    by_cases hn : j < n
    · rw [wl_get hn, wl_get hn, va_up_ne _ _ hj]
    · rw [List.getElem?_eq_none (by simp [wl]; omega), List.getElem?_eq_none (by simp [wl]; omega)]
theorem wl_push {cy : Nat → ClassId} {b n : Nat} {F : Hp} {e : va_E} : wl cy b n F ++ [(b + n, mE cy b e)] = wl cy b (n + 1) (va_up F n e) := by
  unfold wl
  rw [List.range_succ, List.map_append]
  congr 1
  · apply List.map_congr_left
    intro k hk
    rw [va_up_ne _ _ (Nat.ne_of_lt (List.mem_range.mp hk))]
  · simp [va_up_self]
theorem wl_len {cy : Nat → ClassId} {b n : Nat} {F : Hp} : (wl cy b n F).length = n := by simp [wl]
theorem wl_D {cy : Nat → ClassId} {b n : Nat} {F : Hp} : va_D (fun q : Nat => b ≤ q) (wl cy b n F) := by
  have key : ∀ (k : Nat) (q : Nat × va_E), (wl cy b n F)[k]? = some q → q.1 = b + k := by
    intro k q h
    have hk : k < n := by
      have := (List.getElem?_eq_some_iff.mp h).1
      rwa [wl_len] at this
    rw [wl_get hk] at h
    cases h
    rfl
  refine ⟨fun i j p q hi hj hpq => ?_, fun k q h => ?_⟩
  · rw [key i p hi, key j q hj] at hpq
    omega
  · rw [key k q h]
    show b ≤ b + k
    omega
/-- the array kinds: 0 int, 1 boolean, 2 Doze -/
abbrev tyL (cy : Nat → ClassId) : List (ClassId × FieldType) := [(cy 0, .int), (cy 1, .boolean), (cy 2, .object RX1)]
/-- links to private members of a nest mate -/
def NW (U : State) : Prop := va_Nw (.methodLinkNest RX6 27 yX7_isFigure RX7) U ∧ va_Nw (.methodLinkNest RX1 127 yX7_isEnd RX7) U ∧ va_Nw (.methodLinkNest RX1 136 yX7_isWithin RX7) U ∧ va_Nw (.methodLinkNest RX1 144 yX7_isFigure RX7) U
theorem NW.warm {s U : State} (hW : s.WarmedH U.vm) (h : NW s) : NW U := ⟨va_Nw.warmM hW h.1, va_Nw.warmM hW h.2.1, va_Nw.warmM hW h.2.2.1, va_Nw.warmM hW h.2.2.2⟩
theorem NW.same {s U : State} (hv : s.vm = U.vm) (h : NW s) : NW U := ⟨va_Nw.same rfl hv h.1, va_Nw.same rfl hv h.2.1, va_Nw.same rfl hv h.2.2.1, va_Nw.same rfl hv h.2.2.2⟩
/-! contracts over the ghost heap -/
def gPc (D : va_G) (cy : Nat → ClassId) (b n : Nat) (F : Hp) (as : List Value) : Array Value → State → Prop := va_Pc (as.map (mv b 0)) (fun U => U.heap.size = b + n ∧ va_P D vwCl (wl cy b n F) U.heap ∧ va_K D vwCl (tyL cy) U ∧ NW U ∧ ∀ k, n ≤ k → F k = dd)
def gQc (D : va_G) (cy : Nat → ClassId) (b n : Nat) (rv : Option Value) (F : Hp) : Array Value → State → Outcome → State → Prop := fun _ st oc t => oc = .returned (rv.map (mv b 0)) ∧ va_P D vwCl (wl cy b n F) t.heap ∧ va_F (fun q : Nat => b ≤ q) st t ∧ ∀ k, n ≤ k → F k = dd
def CT (y : MethodName) (cc : ByteArray) (maxL : Nat) (ret : Option FieldType) (rm : Room) (n : Nat) (F : Hp) (as : List Value) (rv : Option Value) (F' : Hp) : Prop :=
  ∀ (l : Launch) (D : va_G) (cy : Nat → ClassId) (b : Nat), Met l y (Cond.code y cc maxL ret :: lw_g) rm (gPc D cy b n F as) (gQc D cy b (n + rm.cells) rv F') rm.cells rm.slots (fun q => b ≤ q)
/-- an activation -/
def Cx : Type := (Program × Launch × Env × Room × State) × (MethodId × Array Value × List Frame × Method × Code) × ((State → Prop) × va_G × (Nat → ClassId)) × (Nat × Nat × Nat × Nat)
def PW (X : Cx) (kc ks : Nat) (F : Hp) (pc : Nat) (lv : List (Nat × Value)) (st : List Value) : Prop :=
  match X with
  | ((p, l, e, R, s), (m, args, below, meth, c), (Q, D, cy), (b, n0, nL, sc)) =>
    (∀ k, n0 + kc ≤ k → F k = dd) → ∀ (H : Heap) (locs : List Loc) (ls : Array Slot), va_P D vwCl (wl cy b (n0 + kc) F) H → va_S (fun q : Nat => b ≤ q) s.heap H locs → lv_has ls nL (lv.map (fun q => (q.1, mv b sc q.2))) →
      W p l e R s m args below meth c H locs kc ks Q (F0 m pc ls (st.map (mv b sc)))
/-- what is known in an activation: its code, its owner, its room -/
def Ok (X : Cx) (cc : ByteArray) (own : String) (maxL : Nat) (rm : Room) : Prop :=
  match X with
  | ((p, l, e, R, s), (m, args, below, meth, c), (Q, D, cy), (b, n0, nL, sc)) =>
    p.tables.exec = Jvm.exec ∧ c.code = cc ∧ c.maxLocals = nL ∧ s.vm.findClass own = some m.cls ∧ (∀ w ∈ lw_g, w.before args s = true) ∧ va_K D vwCl (tyL cy) s ∧ s.heap.size = b + n0 ∧ meth.locks = false ∧ R = rm ∧ NW s ∧ nL = maxL
/-- what it must come to -/
def Rt (X : Cx) (ret : Option FieldType) (nm : Bool) (kc ks : Nat) (rv : Option Value) (F' : Hp) : Prop :=
  match X with
  | ((p, l, e, R, s), (m, args, below, meth, c), (Q, D, cy), (b, n0, nL, sc)) =>
    meth.sig.returnType = ret ∧ Q = MQ below (gQc D cy b (n0 + kc) rv F') args s kc ks (fun q => b ≤ q) ∧ (nm = true → meth.name = "<init>")
def Md (X : Cx) (cc : ByteArray) (own : String) (maxL : Nat) (rm : Room) (ret : Option FieldType) (nm : Bool) (rv : Option Value) (F' : Hp) : Prop := Ok X cc own maxL rm ∧ Rt X ret nm rm.cells rm.slots rv F'
theorem mv_cat (b sc : Nat) (v : Value) : (mv b sc v).category = v.category := by cases v <;> rfl
theorem mv_cats (b sc : Nat) (st : List Value) : ((st.map (mv b sc)).map fun v => v.category).sum = (st.map fun v => v.category).sum := by
  rw [List.map_map]
  congr 1
  apply List.map_congr_left
  intro v _
  exact mv_cat b sc v
theorem mv_filter (b sc : Nat) (lv : List (Nat × Value)) (f g : Nat → Bool) : (lv.map (fun q => (q.1, mv b sc q.2))).filter (fun q => f q.1 && !(g q.1 && q.2.category == 2)) = (lv.filter (fun q => f q.1 && !(g q.1 && q.2.category == 2))).map (fun q => (q.1, mv b sc q.2)) := by
  rw [List.filter_map]
  congr 1
  apply List.filter_congr
  intro q _
  simp [Function.comp, mv_cat]
theorem gPc_blind (D : va_G) (cy : Nat → ClassId) (b n : Nat) (F : Hp) (as : List Value) : FrameBlind (gPc D cy b n F as) := by
  intro a U g mk h
  obtain ⟨h1, h2, h3, h4, h5, h6⟩ := h
  exact ⟨h1, h2, h3, va_K.moved (u := U) (U := U.calling g mk a) (Vm.Alike.refl U.vm) h4, NW.same (s := U) rfl h5, h6⟩
end
section
def jrem (x y : Int32) : Int32 := x - x / y * y
def jreml (x y : Int64) : Int64 := x - x / y * y
section ROWS
variable {X : Cx} {cc : ByteArray} {own : String} {mL : Nat} {rm : Room} {kc ks : Nat} {F : Hp} {pc : Nat} {lv : List (Nat × Value)} {st : List Value} {α : Type} {res : α}
theorem pw_iadd (hX : Ok X cc own mL rm) {x y : Int32} (hd : decode cc pc = .ok (.iadd, 1)) (k : PW X kc ks F (pc + 1) lv (.int (x + y) :: st)) : PW X kc ks F pc lv (.int y :: .int x :: st) := by
  obtain ⟨⟨p, l, e, R, s⟩, ⟨m, args, below, meth, c⟩, ⟨Q, D, cy⟩, ⟨b, n0, nL, sc⟩⟩ := X
  obtain ⟨hx, hb, hml, hown, hts, hK, hsz, hlk, hR, hN, hnL⟩ := hX
  intro hF H locs ls hP hS hl
  exact lv_iadd hx hb hd (k hF H locs ls hP hS hl)
theorem pw_isub (hX : Ok X cc own mL rm) {x y : Int32} (hd : decode cc pc = .ok (.isub, 1)) (k : PW X kc ks F (pc + 1) lv (.int (x - y) :: st)) : PW X kc ks F pc lv (.int y :: .int x :: st) := by
  obtain ⟨⟨p, l, e, R, s⟩, ⟨m, args, below, meth, c⟩, ⟨Q, D, cy⟩, ⟨b, n0, nL, sc⟩⟩ := X
  obtain ⟨hx, hb, hml, hown, hts, hK, hsz, hlk, hR, hN, hnL⟩ := hX
  intro hF H locs ls hP hS hl
  exact lv_isub hx hb hd (k hF H locs ls hP hS hl)
theorem pw_imul (hX : Ok X cc own mL rm) {x y : Int32} (hd : decode cc pc = .ok (.imul, 1)) (k : PW X kc ks F (pc + 1) lv (.int (x * y) :: st)) : PW X kc ks F pc lv (.int y :: .int x :: st) := by
  obtain ⟨⟨p, l, e, R, s⟩, ⟨m, args, below, meth, c⟩, ⟨Q, D, cy⟩, ⟨b, n0, nL, sc⟩⟩ := X
  obtain ⟨hx, hb, hml, hown, hts, hK, hsz, hlk, hR, hN, hnL⟩ := hX
  intro hF H locs ls hP hS hl
  exact lv_imul hx hb hd (k hF H locs ls hP hS hl)
theorem pw_iand (hX : Ok X cc own mL rm) {x y : Int32} (hd : decode cc pc = .ok (.iand, 1)) (k : PW X kc ks F (pc + 1) lv (.int (x &&& y) :: st)) : PW X kc ks F pc lv (.int y :: .int x :: st) := by
  obtain ⟨⟨p, l, e, R, s⟩, ⟨m, args, below, meth, c⟩, ⟨Q, D, cy⟩, ⟨b, n0, nL, sc⟩⟩ := X
  obtain ⟨hx, hb, hml, hown, hts, hK, hsz, hlk, hR, hN, hnL⟩ := hX
  intro hF H locs ls hP hS hl
  exact lv_iand hx hb hd (k hF H locs ls hP hS hl)
theorem pw_ior (hX : Ok X cc own mL rm) {x y : Int32} (hd : decode cc pc = .ok (.ior, 1)) (k : PW X kc ks F (pc + 1) lv (.int (x ||| y) :: st)) : PW X kc ks F pc lv (.int y :: .int x :: st) := by
  obtain ⟨⟨p, l, e, R, s⟩, ⟨m, args, below, meth, c⟩, ⟨Q, D, cy⟩, ⟨b, n0, nL, sc⟩⟩ := X
  obtain ⟨hx, hb, hml, hown, hts, hK, hsz, hlk, hR, hN, hnL⟩ := hX
  intro hF H locs ls hP hS hl
  exact lv_ior hx hb hd (k hF H locs ls hP hS hl)
theorem pw_ishl (hX : Ok X cc own mL rm) {x y : Int32} (hd : decode cc pc = .ok (.ishl, 1)) (k : PW X kc ks F (pc + 1) lv (.int (x <<< (y &&& 31)) :: st)) : PW X kc ks F pc lv (.int y :: .int x :: st) := by
  obtain ⟨⟨p, l, e, R, s⟩, ⟨m, args, below, meth, c⟩, ⟨Q, D, cy⟩, ⟨b, n0, nL, sc⟩⟩ := X
  obtain ⟨hx, hb, hml, hown, hts, hK, hsz, hlk, hR, hN, hnL⟩ := hX
  intro hF H locs ls hP hS hl
  exact lv_ishl hx hb hd (k hF H locs ls hP hS hl)
theorem pw_ishr (hX : Ok X cc own mL rm) {x y : Int32} (hd : decode cc pc = .ok (.ishr, 1)) (k : PW X kc ks F (pc + 1) lv (.int (x >>> (y &&& 31)) :: st)) : PW X kc ks F pc lv (.int y :: .int x :: st) := by
  obtain ⟨⟨p, l, e, R, s⟩, ⟨m, args, below, meth, c⟩, ⟨Q, D, cy⟩, ⟨b, n0, nL, sc⟩⟩ := X
  obtain ⟨hx, hb, hml, hown, hts, hK, hsz, hlk, hR, hN, hnL⟩ := hX
  intro hF H locs ls hP hS hl
  exact lv_ishr hx hb hd (k hF H locs ls hP hS hl)
theorem pw_iushr (hX : Ok X cc own mL rm) {x y : Int32} (hd : decode cc pc = .ok (.iushr, 1)) (k : PW X kc ks F (pc + 1) lv (.int ((x.toUInt32 >>> (y.toUInt32 &&& Int32.toUInt32 31)).toInt32) :: st)) : PW X kc ks F pc lv (.int y :: .int x :: st) := by
  obtain ⟨⟨p, l, e, R, s⟩, ⟨m, args, below, meth, c⟩, ⟨Q, D, cy⟩, ⟨b, n0, nL, sc⟩⟩ := X
  obtain ⟨hx, hb, hml, hown, hts, hK, hsz, hlk, hR, hN, hnL⟩ := hX
  intro hF H locs ls hP hS hl
  exact lv_iushr hx hb hd rfl (k hF H locs ls hP hS hl)
theorem pw_ineg (hX : Ok X cc own mL rm) {x : Int32} (hd : decode cc pc = .ok (.ineg, 1)) (k : PW X kc ks F (pc + 1) lv (.int (-x) :: st)) : PW X kc ks F pc lv (.int x :: st) := by
  obtain ⟨⟨p, l, e, R, s⟩, ⟨m, args, below, meth, c⟩, ⟨Q, D, cy⟩, ⟨b, n0, nL, sc⟩⟩ := X
  obtain ⟨hx, hb, hml, hown, hts, hK, hsz, hlk, hR, hN, hnL⟩ := hX
  intro hF H locs ls hP hS hl
  exact lv_ineg hx hb hd (k hF H locs ls hP hS hl)
theorem pw_ladd (hX : Ok X cc own mL rm) {x y : Int64} (hd : decode cc pc = .ok (.ladd, 1)) (k : PW X kc ks F (pc + 1) lv (.long (x + y) :: st)) : PW X kc ks F pc lv (.long y :: .long x :: st) := by
  obtain ⟨⟨p, l, e, R, s⟩, ⟨m, args, below, meth, c⟩, ⟨Q, D, cy⟩, ⟨b, n0, nL, sc⟩⟩ := X
  obtain ⟨hx, hb, hml, hown, hts, hK, hsz, hlk, hR, hN, hnL⟩ := hX
  intro hF H locs ls hP hS hl
  exact lv_ladd hx hb hd (k hF H locs ls hP hS hl)
theorem pw_lsub (hX : Ok X cc own mL rm) {x y : Int64} (hd : decode cc pc = .ok (.lsub, 1)) (k : PW X kc ks F (pc + 1) lv (.long (x - y) :: st)) : PW X kc ks F pc lv (.long y :: .long x :: st) := by
  obtain ⟨⟨p, l, e, R, s⟩, ⟨m, args, below, meth, c⟩, ⟨Q, D, cy⟩, ⟨b, n0, nL, sc⟩⟩ := X
  obtain ⟨hx, hb, hml, hown, hts, hK, hsz, hlk, hR, hN, hnL⟩ := hX
  intro hF H locs ls hP hS hl
  exact lv_lsub hx hb hd (k hF H locs ls hP hS hl)
theorem pw_lmul (hX : Ok X cc own mL rm) {x y : Int64} (hd : decode cc pc = .ok (.lmul, 1)) (k : PW X kc ks F (pc + 1) lv (.long (x * y) :: st)) : PW X kc ks F pc lv (.long y :: .long x :: st) := by
  obtain ⟨⟨p, l, e, R, s⟩, ⟨m, args, below, meth, c⟩, ⟨Q, D, cy⟩, ⟨b, n0, nL, sc⟩⟩ := X
  obtain ⟨hx, hb, hml, hown, hts, hK, hsz, hlk, hR, hN, hnL⟩ := hX
  intro hF H locs ls hP hS hl
  exact lv_lmul hx hb hd (k hF H locs ls hP hS hl)
theorem pw_land (hX : Ok X cc own mL rm) {x y : Int64} (hd : decode cc pc = .ok (.land, 1)) (k : PW X kc ks F (pc + 1) lv (.long (x &&& y) :: st)) : PW X kc ks F pc lv (.long y :: .long x :: st) := by
  obtain ⟨⟨p, l, e, R, s⟩, ⟨m, args, below, meth, c⟩, ⟨Q, D, cy⟩, ⟨b, n0, nL, sc⟩⟩ := X
  obtain ⟨hx, hb, hml, hown, hts, hK, hsz, hlk, hR, hN, hnL⟩ := hX
  intro hF H locs ls hP hS hl
  exact lv_land hx hb hd (k hF H locs ls hP hS hl)
theorem pw_lor (hX : Ok X cc own mL rm) {x y : Int64} (hd : decode cc pc = .ok (.lor, 1)) (k : PW X kc ks F (pc + 1) lv (.long (x ||| y) :: st)) : PW X kc ks F pc lv (.long y :: .long x :: st) := by
  obtain ⟨⟨p, l, e, R, s⟩, ⟨m, args, below, meth, c⟩, ⟨Q, D, cy⟩, ⟨b, n0, nL, sc⟩⟩ := X
  obtain ⟨hx, hb, hml, hown, hts, hK, hsz, hlk, hR, hN, hnL⟩ := hX
  intro hF H locs ls hP hS hl
  exact lv_lor hx hb hd (k hF H locs ls hP hS hl)
theorem pw_lshl (hX : Ok X cc own mL rm) {x : Int64} {y : Int32} (hd : decode cc pc = .ok (.lshl, 1)) (k : PW X kc ks F (pc + 1) lv (.long (x <<< (y.toInt64 &&& 63)) :: st)) : PW X kc ks F pc lv (.int y :: .long x :: st) := by
  obtain ⟨⟨p, l, e, R, s⟩, ⟨m, args, below, meth, c⟩, ⟨Q, D, cy⟩, ⟨b, n0, nL, sc⟩⟩ := X
  obtain ⟨hx, hb, hml, hown, hts, hK, hsz, hlk, hR, hN, hnL⟩ := hX
  intro hF H locs ls hP hS hl
  exact lv_lshl hx hb hd rfl (k hF H locs ls hP hS hl)
theorem pw_lushr (hX : Ok X cc own mL rm) {x : Int64} {y : Int32} (hd : decode cc pc = .ok (.lushr, 1)) (k : PW X kc ks F (pc + 1) lv (.long ((x.toUInt64 >>> (y.toInt64.toUInt64 &&& Int64.toUInt64 63)).toInt64) :: st)) : PW X kc ks F pc lv (.int y :: .long x :: st) := by
  obtain ⟨⟨p, l, e, R, s⟩, ⟨m, args, below, meth, c⟩, ⟨Q, D, cy⟩, ⟨b, n0, nL, sc⟩⟩ := X
  obtain ⟨hx, hb, hml, hown, hts, hK, hsz, hlk, hR, hN, hnL⟩ := hX
  intro hF H locs ls hP hS hl
  exact lv_lushr hx hb hd rfl (k hF H locs ls hP hS hl)
theorem pw_i2l (hX : Ok X cc own mL rm) {x : Int32} (hd : decode cc pc = .ok (.i2l, 1)) (k : PW X kc ks F (pc + 1) lv (.long (x.toInt64) :: st)) : PW X kc ks F pc lv (.int x :: st) := by
  obtain ⟨⟨p, l, e, R, s⟩, ⟨m, args, below, meth, c⟩, ⟨Q, D, cy⟩, ⟨b, n0, nL, sc⟩⟩ := X
  obtain ⟨hx, hb, hml, hown, hts, hK, hsz, hlk, hR, hN, hnL⟩ := hX
  intro hF H locs ls hP hS hl
  exact lv_i2l hx hb hd rfl (k hF H locs ls hP hS hl)
theorem pw_l2i (hX : Ok X cc own mL rm) {x : Int64} (hd : decode cc pc = .ok (.l2i, 1)) (k : PW X kc ks F (pc + 1) lv (.int (x.toInt32) :: st)) : PW X kc ks F pc lv (.long x :: st) := by
  obtain ⟨⟨p, l, e, R, s⟩, ⟨m, args, below, meth, c⟩, ⟨Q, D, cy⟩, ⟨b, n0, nL, sc⟩⟩ := X
  obtain ⟨hx, hb, hml, hown, hts, hK, hsz, hlk, hR, hN, hnL⟩ := hX
  intro hF H locs ls hP hS hl
  exact lv_l2i hx hb hd rfl (k hF H locs ls hP hS hl)
theorem pw_lcmp (hX : Ok X cc own mL rm) {x y : Int64} (hd : decode cc pc = .ok (.lcmp, 1)) (k : PW X kc ks F (pc + 1) lv (.int (lg_cmp x y) :: st)) : PW X kc ks F pc lv (.long y :: .long x :: st) := by
  obtain ⟨⟨p, l, e, R, s⟩, ⟨m, args, below, meth, c⟩, ⟨Q, D, cy⟩, ⟨b, n0, nL, sc⟩⟩ := X
  obtain ⟨hx, hb, hml, hown, hts, hK, hsz, hlk, hR, hN, hnL⟩ := hX
  intro hF H locs ls hP hS hl
  exact W.lcmp hx hb hd (k hF H locs ls hP hS hl)
theorem pw_idivc (hX : Ok X cc own mL rm) {x y : Int32} (hd : decode cc pc = .ok (.idiv, 1)) (hne : ¬ y = 0) (k : PW X kc ks F (pc + 1) lv (.int (x / y) :: st)) : PW X kc ks F pc lv (.int y :: .int x :: st) := by
  obtain ⟨⟨p, l, e, R, s⟩, ⟨m, args, below, meth, c⟩, ⟨Q, D, cy⟩, ⟨b, n0, nL, sc⟩⟩ := X
  obtain ⟨hx, hb, hml, hown, hts, hK, hsz, hlk, hR, hN, hnL⟩ := hX
  intro hF H locs ls hP hS hl
  exact lv_idiv hx hb hd hne (k hF H locs ls hP hS hl)
theorem pw_idiv (hX : Ok X cc own mL rm) {x y : Int32} {A : Option α} (hd : decode cc pc = .ok (.idiv, 1)) (h : (if y = 0 then none else A) = some res) (k : A = some res → PW X kc ks F (pc + 1) lv (.int (x / y) :: st)) : PW X kc ks F pc lv (.int y :: .int x :: st) := by
  by_cases hy : y = 0
  · rw [if_pos hy] at h; cases h
  · rw [if_neg hy] at h; exact pw_idivc hX hd hy (k h)
theorem pw_iremc (hX : Ok X cc own mL rm) {x y : Int32} (hd : decode cc pc = .ok (.irem, 1)) (hne : ¬ y = 0) (k : PW X kc ks F (pc + 1) lv (.int (jrem x y) :: st)) : PW X kc ks F pc lv (.int y :: .int x :: st) := by
  obtain ⟨⟨p, l, e, R, s⟩, ⟨m, args, below, meth, c⟩, ⟨Q, D, cy⟩, ⟨b, n0, nL, sc⟩⟩ := X
  obtain ⟨hx, hb, hml, hown, hts, hK, hsz, hlk, hR, hN, hnL⟩ := hX
  intro hF H locs ls hP hS hl
  exact lv_irem hx hb hd hne (k hF H locs ls hP hS hl)
theorem pw_irem (hX : Ok X cc own mL rm) {x y : Int32} {A : Option α} (hd : decode cc pc = .ok (.irem, 1)) (h : (if y = 0 then none else A) = some res) (k : A = some res → PW X kc ks F (pc + 1) lv (.int (jrem x y) :: st)) : PW X kc ks F pc lv (.int y :: .int x :: st) := by
  by_cases hy : y = 0
  · rw [if_pos hy] at h; cases h
  · rw [if_neg hy] at h; exact pw_iremc hX hd hy (k h)
theorem pw_ldivc (hX : Ok X cc own mL rm) {x y : Int64} (hd : decode cc pc = .ok (.ldiv, 1)) (hne : ¬ y = 0) (k : PW X kc ks F (pc + 1) lv (.long (x / y) :: st)) : PW X kc ks F pc lv (.long y :: .long x :: st) := by
  obtain ⟨⟨p, l, e, R, s⟩, ⟨m, args, below, meth, c⟩, ⟨Q, D, cy⟩, ⟨b, n0, nL, sc⟩⟩ := X
  obtain ⟨hx, hb, hml, hown, hts, hK, hsz, hlk, hR, hN, hnL⟩ := hX
  intro hF H locs ls hP hS hl
  exact lv_ldiv hx hb hd hne (k hF H locs ls hP hS hl)
theorem pw_ldiv (hX : Ok X cc own mL rm) {x y : Int64} {A : Option α} (hd : decode cc pc = .ok (.ldiv, 1)) (h : (if y = 0 then none else A) = some res) (k : A = some res → PW X kc ks F (pc + 1) lv (.long (x / y) :: st)) : PW X kc ks F pc lv (.long y :: .long x :: st) := by
  by_cases hy : y = 0
  · rw [if_pos hy] at h; cases h
  · rw [if_neg hy] at h; exact pw_ldivc hX hd hy (k h)
theorem pw_lremc (hX : Ok X cc own mL rm) {x y : Int64} (hd : decode cc pc = .ok (.lrem, 1)) (hne : ¬ y = 0) (k : PW X kc ks F (pc + 1) lv (.long (jreml x y) :: st)) : PW X kc ks F pc lv (.long y :: .long x :: st) := by
  obtain ⟨⟨p, l, e, R, s⟩, ⟨m, args, below, meth, c⟩, ⟨Q, D, cy⟩, ⟨b, n0, nL, sc⟩⟩ := X
  obtain ⟨hx, hb, hml, hown, hts, hK, hsz, hlk, hR, hN, hnL⟩ := hX
  intro hF H locs ls hP hS hl
  exact lv_lrem hx hb hd hne (k hF H locs ls hP hS hl)
theorem pw_lrem (hX : Ok X cc own mL rm) {x y : Int64} {A : Option α} (hd : decode cc pc = .ok (.lrem, 1)) (h : (if y = 0 then none else A) = some res) (k : A = some res → PW X kc ks F (pc + 1) lv (.long (jreml x y) :: st)) : PW X kc ks F pc lv (.long y :: .long x :: st) := by
  by_cases hy : y = 0
  · rw [if_pos hy] at h; cases h
  · rw [if_neg hy] at h; exact pw_lremc hX hd hy (k h)
theorem pw_iconst (hX : Ok X cc own mL rm) {n : Int} {v : Int32} (hd : decode cc pc = .ok (.iconst n, 1)) (hv : Int32.ofInt n = v) (k : PW X kc ks F (pc + 1) lv (.int v :: st)) : PW X kc ks F pc lv (st) := by
  obtain ⟨⟨p, l, e, R, s⟩, ⟨m, args, below, meth, c⟩, ⟨Q, D, cy⟩, ⟨b, n0, nL, sc⟩⟩ := X
  obtain ⟨hx, hb, hml, hown, hts, hK, hsz, hlk, hR, hN, hnL⟩ := hX
  intro hF H locs ls hP hS hl
  exact lv_iconst hx hb hd hv (k hF H locs ls hP hS hl)
theorem pw_bipush (hX : Ok X cc own mL rm) {n : Int} {v : Int32} (hd : decode cc pc = .ok (.bipush n, 2)) (hv : (Int8.ofInt n).toInt32 = v) (k : PW X kc ks F (pc + 2) lv (.int v :: st)) : PW X kc ks F pc lv (st) := by
  obtain ⟨⟨p, l, e, R, s⟩, ⟨m, args, below, meth, c⟩, ⟨Q, D, cy⟩, ⟨b, n0, nL, sc⟩⟩ := X
  obtain ⟨hx, hb, hml, hown, hts, hK, hsz, hlk, hR, hN, hnL⟩ := hX
  intro hF H locs ls hP hS hl
  exact lv_bipush hx hb hd hv (k hF H locs ls hP hS hl)
theorem pw_sipush (hX : Ok X cc own mL rm) {n : Int} {v : Int32} (hd : decode cc pc = .ok (.sipush n, 3)) (hv : (Int16.ofInt n).toInt32 = v) (k : PW X kc ks F (pc + 3) lv (.int v :: st)) : PW X kc ks F pc lv (st) := by
  obtain ⟨⟨p, l, e, R, s⟩, ⟨m, args, below, meth, c⟩, ⟨Q, D, cy⟩, ⟨b, n0, nL, sc⟩⟩ := X
  obtain ⟨hx, hb, hml, hown, hts, hK, hsz, hlk, hR, hN, hnL⟩ := hX
  intro hF H locs ls hP hS hl
  exact lv_sipush hx hb hd hv (k hF H locs ls hP hS hl)
theorem pw_lconst (hX : Ok X cc own mL rm) {n : Fin 2} {v : Int64} (hd : decode cc pc = .ok (.lconst n, 1)) (hv : Int64.ofNat (n : Nat) = v) (k : PW X kc ks F (pc + 1) lv (.long v :: st)) : PW X kc ks F pc lv (st) := by
  obtain ⟨⟨p, l, e, R, s⟩, ⟨m, args, below, meth, c⟩, ⟨Q, D, cy⟩, ⟨b, n0, nL, sc⟩⟩ := X
  obtain ⟨hx, hb, hml, hown, hts, hK, hsz, hlk, hR, hN, hnL⟩ := hX
  intro hF H locs ls hP hS hl
  exact lv_lconst hx hb hd hv (k hF H locs ls hP hS hl)
theorem pw_ldc2 (hX : Ok X cc own mL rm) {i : Nat} {v : Int64} (hd : decode cc pc = .ok (.ldc2_w i, 3)) (hw : Cond.constantLong own i v ∈ lw_g) (k : PW X kc ks F (pc + 3) lv (.long v :: st)) : PW X kc ks F pc lv (st) := by
  obtain ⟨⟨p, l, e, R, s⟩, ⟨m, args, below, meth, c⟩, ⟨Q, D, cy⟩, ⟨b, n0, nL, sc⟩⟩ := X
  obtain ⟨hx, hb, hml, hown, hts, hK, hsz, hlk, hR, hN, hnL⟩ := hX
  intro hF H locs ls hP hS hl
  exact lv_ldc2 hx hb hown (hts _ hw) hd (k hF H locs ls hP hS hl)
theorem pw_ldcw (hX : Ok X cc own mL rm) {i : Nat} {v : Int32} (hd : decode cc pc = .ok (.ldc_w i, 3)) (hw : Cond.constant own i v ∈ lw_g) (k : PW X kc ks F (pc + 3) lv (.int v :: st)) : PW X kc ks F pc lv (st) := by
  obtain ⟨⟨p, l, e, R, s⟩, ⟨m, args, below, meth, c⟩, ⟨Q, D, cy⟩, ⟨b, n0, nL, sc⟩⟩ := X
  obtain ⟨hx, hb, hml, hown, hts, hK, hsz, hlk, hR, hN, hnL⟩ := hX
  intro hF H locs ls hP hS hl
  exact lv_ldcw hx hb hown (hts _ hw) hd (k hF H locs ls hP hS hl)
theorem pw_null (hX : Ok X cc own mL rm) (hd : decode cc pc = .ok (.aconst_null, 1)) (k : PW X kc ks F (pc + 1) lv (.null :: st)) : PW X kc ks F pc lv (st) := by
  obtain ⟨⟨p, l, e, R, s⟩, ⟨m, args, below, meth, c⟩, ⟨Q, D, cy⟩, ⟨b, n0, nL, sc⟩⟩ := X
  obtain ⟨hx, hb, hml, hown, hts, hK, hsz, hlk, hR, hN, hnL⟩ := hX
  intro hF H locs ls hP hS hl
  exact lv_null hx hb hd (k hF H locs ls hP hS hl)
theorem lvm_at {b sc : Nat} {lv : List (Nat × Value)} {k i : Nat} {v : Value} (h : lv[k]? = some (i, v)) : (lv.map (fun q => (q.1, mv b sc q.2)))[k]? = some (i, mv b sc v) := by rw [List.getElem?_map, h]; rfl
theorem pw_iload_n (hX : Ok X cc own mL rm) {j : Fin 4} {x : Int32} (hd : decode cc pc = .ok (.iload_n j, 1)) (k : Nat) (hk : lv[k]? = some ((j : Nat), .int x)) (kk : PW X kc ks F (pc + 1) lv (.int x :: st)) : PW X kc ks F pc lv (st) := by
  obtain ⟨⟨p, l, e, R, s⟩, ⟨m, args, below, meth, c⟩, ⟨Q, D, cy⟩, ⟨b, n0, nL, sc⟩⟩ := X
  obtain ⟨hx, hb, hml, hown, hts, hK, hsz, hlk, hR, hN, hnL⟩ := hX
  intro hF H locs ls hP hS hl
  exact lv_iload_n hx hb hd rfl (lv_at hl k (lvm_at hk)) (kk hF H locs ls hP hS hl)
theorem pw_iload (hX : Ok X cc own mL rm) {j : Nat} {x : Int32} (hd : decode cc pc = .ok (.iload j, 2)) (k : Nat) (hk : lv[k]? = some (j, .int x)) (kk : PW X kc ks F (pc + 2) lv (.int x :: st)) : PW X kc ks F pc lv (st) := by
  obtain ⟨⟨p, l, e, R, s⟩, ⟨m, args, below, meth, c⟩, ⟨Q, D, cy⟩, ⟨b, n0, nL, sc⟩⟩ := X
  obtain ⟨hx, hb, hml, hown, hts, hK, hsz, hlk, hR, hN, hnL⟩ := hX
  intro hF H locs ls hP hS hl
  exact lv_iload hx hb hd (lv_at hl k (lvm_at hk)) (kk hF H locs ls hP hS hl)
theorem pw_lload_n (hX : Ok X cc own mL rm) {j : Fin 4} {x : Int64} (hd : decode cc pc = .ok (.lload_n j, 1)) (k : Nat) (hk : lv[k]? = some ((j : Nat), .long x)) (kk : PW X kc ks F (pc + 1) lv (.long x :: st)) : PW X kc ks F pc lv (st) := by
  obtain ⟨⟨p, l, e, R, s⟩, ⟨m, args, below, meth, c⟩, ⟨Q, D, cy⟩, ⟨b, n0, nL, sc⟩⟩ := X
  obtain ⟨hx, hb, hml, hown, hts, hK, hsz, hlk, hR, hN, hnL⟩ := hX
  intro hF H locs ls hP hS hl
  exact lv_lload_n hx hb hd rfl (lv_at hl k (lvm_at hk)) (kk hF H locs ls hP hS hl)
theorem pw_lload (hX : Ok X cc own mL rm) {j : Nat} {x : Int64} (hd : decode cc pc = .ok (.lload j, 2)) (k : Nat) (hk : lv[k]? = some (j, .long x)) (kk : PW X kc ks F (pc + 2) lv (.long x :: st)) : PW X kc ks F pc lv (st) := by
  obtain ⟨⟨p, l, e, R, s⟩, ⟨m, args, below, meth, c⟩, ⟨Q, D, cy⟩, ⟨b, n0, nL, sc⟩⟩ := X
  obtain ⟨hx, hb, hml, hown, hts, hK, hsz, hlk, hR, hN, hnL⟩ := hX
  intro hF H locs ls hP hS hl
  exact lv_lload hx hb hd (lv_at hl k (lvm_at hk)) (kk hF H locs ls hP hS hl)
theorem pw_aload_n (hX : Ok X cc own mL rm) {j : Fin 4} {x : Nat} (hd : decode cc pc = .ok (.aload_n j, 1)) (k : Nat) (hk : lv[k]? = some ((j : Nat), .ref x)) (kk : PW X kc ks F (pc + 1) lv (.ref x :: st)) : PW X kc ks F pc lv (st) := by
  obtain ⟨⟨p, l, e, R, s⟩, ⟨m, args, below, meth, c⟩, ⟨Q, D, cy⟩, ⟨b, n0, nL, sc⟩⟩ := X
  obtain ⟨hx, hb, hml, hown, hts, hK, hsz, hlk, hR, hN, hnL⟩ := hX
  intro hF H locs ls hP hS hl
  exact lv_aload_n hx hb hd rfl (lv_at hl k (lvm_at hk)) (kk hF H locs ls hP hS hl)
theorem pw_aload (hX : Ok X cc own mL rm) {j : Nat} {x : Nat} (hd : decode cc pc = .ok (.aload j, 2)) (k : Nat) (hk : lv[k]? = some (j, .ref x)) (kk : PW X kc ks F (pc + 2) lv (.ref x :: st)) : PW X kc ks F pc lv (st) := by
  obtain ⟨⟨p, l, e, R, s⟩, ⟨m, args, below, meth, c⟩, ⟨Q, D, cy⟩, ⟨b, n0, nL, sc⟩⟩ := X
  obtain ⟨hx, hb, hml, hown, hts, hK, hsz, hlk, hR, hN, hnL⟩ := hX
  intro hF H locs ls hP hS hl
  exact lv_aload hx hb hd (lv_at hl k (lvm_at hk)) (kk hF H locs ls hP hS hl)
theorem pw_aload_nN (hX : Ok X cc own mL rm) {j : Fin 4} (hd : decode cc pc = .ok (.aload_n j, 1)) (k : Nat) (hk : lv[k]? = some ((j : Nat), .null)) (kk : PW X kc ks F (pc + 1) lv (.null :: st)) : PW X kc ks F pc lv (st) := by
  obtain ⟨⟨p, l, e, R, s⟩, ⟨m, args, below, meth, c⟩, ⟨Q, D, cy⟩, ⟨b, n0, nL, sc⟩⟩ := X
  obtain ⟨hx, hb, hml, hown, hts, hK, hsz, hlk, hR, hN, hnL⟩ := hX
  intro hF H locs ls hP hS hl
  exact lv_aload_nN hx hb hd rfl (lv_at hl k (lvm_at hk)) (kk hF H locs ls hP hS hl)
theorem pw_sload_n (hX : Ok X cc own mL rm) {j : Fin 4} {x : UInt32} (hd : decode cc pc = .ok (.aload_n j, 1)) (k : Nat) (hk : lv[k]? = some ((j : Nat), .float x)) (kk : PW X kc ks F (pc + 1) lv (.float x :: st)) : PW X kc ks F pc lv (st) := by
  obtain ⟨⟨p, l, e, R, s⟩, ⟨m, args, below, meth, c⟩, ⟨Q, D, cy⟩, ⟨b, n0, nL, sc⟩⟩ := X
  obtain ⟨hx, hb, hml, hown, hts, hK, hsz, hlk, hR, hN, hnL⟩ := hX
  intro hF H locs ls hP hS hl
  exact lv_aload_n hx hb hd rfl (lv_at hl k (lvm_at hk)) (kk hF H locs ls hP hS hl)
theorem lvm_f1 {b sc i : Nat} {v : Value} {lv lv1 : List (Nat × Value)} (h : (i, v) :: lv.filter (fun q => !(q.1 == i) && !(q.1 + 1 == i && q.2.category == 2)) = lv1) : (i, mv b sc v) :: (lv.map (fun q => (q.1, mv b sc q.2))).filter (fun q => !(q.1 == i) && !(q.1 + 1 == i && q.2.category == 2)) = lv1.map (fun q => (q.1, mv b sc q.2)) := by
  rw [← h, List.map_cons, mv_filter b sc lv (fun k => !(k == i)) (fun k => k + 1 == i)]
theorem lvm_f2 {b sc i : Nat} {v : Value} {lv lv1 : List (Nat × Value)} (h : (i, v) :: lv.filter (fun q => !(q.1 == i) && (!(q.1 == i + 1) && !(q.1 + 1 == i && q.2.category == 2))) = lv1) : (i, mv b sc v) :: (lv.map (fun q => (q.1, mv b sc q.2))).filter (fun q => !(q.1 == i) && (!(q.1 == i + 1) && !(q.1 + 1 == i && q.2.category == 2))) = lv1.map (fun q => (q.1, mv b sc q.2)) := by
  rw [← h, List.map_cons]
  congr 1
  rw [List.filter_map]
  congr 1
  apply List.filter_congr
  intro q _
  simp [Function.comp, mv_cat]
theorem pw_istore_n (hX : Ok X cc own mL rm) {j : Fin 4} {x : Int32} (lv1 : List (Nat × Value)) (hd : decode cc pc = .ok (.istore_n j, 1)) (hn : (j : Nat) < mL) (hf : ((j : Nat), Value.int x) :: lv.filter (fun q => !(q.1 == (j : Nat)) && !(q.1 + 1 == (j : Nat) && q.2.category == 2)) = lv1) (kk : PW X kc ks F (pc + 1) lv1 st) : PW X kc ks F pc lv (.int x :: st) := by
  obtain ⟨⟨p, l, e, R, s⟩, ⟨m, args, below, meth, c⟩, ⟨Q, D, cy⟩, ⟨b, n0, nL, sc⟩⟩ := X
  obtain ⟨hx, hb, hml, hown, hts, hK, hsz, hlk, hR, hN, hnL⟩ := hX
  intro hF H locs ls hP hS hl
  exact lv_istore_n hx hb hd rfl hl (by rw [hnL]; exact hn) (lvm_f1 (b := b) (sc := sc) hf) (fun ls hl => kk hF H locs ls hP hS hl)
theorem pw_istore (hX : Ok X cc own mL rm) {j : Nat} {x : Int32} (lv1 : List (Nat × Value)) (hd : decode cc pc = .ok (.istore j, 2)) (hn : j < mL) (hf : (j, Value.int x) :: lv.filter (fun q => !(q.1 == j) && !(q.1 + 1 == j && q.2.category == 2)) = lv1) (kk : PW X kc ks F (pc + 2) lv1 st) : PW X kc ks F pc lv (.int x :: st) := by
  obtain ⟨⟨p, l, e, R, s⟩, ⟨m, args, below, meth, c⟩, ⟨Q, D, cy⟩, ⟨b, n0, nL, sc⟩⟩ := X
  obtain ⟨hx, hb, hml, hown, hts, hK, hsz, hlk, hR, hN, hnL⟩ := hX
  intro hF H locs ls hP hS hl
  exact lv_istore hx hb hd hl (by rw [hnL]; exact hn) (lvm_f1 (b := b) (sc := sc) hf) (fun ls hl => kk hF H locs ls hP hS hl)
theorem pw_astore_n (hX : Ok X cc own mL rm) {j : Fin 4} {x : Nat} (lv1 : List (Nat × Value)) (hd : decode cc pc = .ok (.astore_n j, 1)) (hn : (j : Nat) < mL) (hf : ((j : Nat), Value.ref x) :: lv.filter (fun q => !(q.1 == (j : Nat)) && !(q.1 + 1 == (j : Nat) && q.2.category == 2)) = lv1) (kk : PW X kc ks F (pc + 1) lv1 st) : PW X kc ks F pc lv (.ref x :: st) := by
  obtain ⟨⟨p, l, e, R, s⟩, ⟨m, args, below, meth, c⟩, ⟨Q, D, cy⟩, ⟨b, n0, nL, sc⟩⟩ := X
  obtain ⟨hx, hb, hml, hown, hts, hK, hsz, hlk, hR, hN, hnL⟩ := hX
  intro hF H locs ls hP hS hl
  exact lv_astore_n hx hb hd rfl hl (by rw [hnL]; exact hn) (lvm_f1 (b := b) (sc := sc) hf) (fun ls hl => kk hF H locs ls hP hS hl)
theorem pw_astore (hX : Ok X cc own mL rm) {j : Nat} {x : Nat} (lv1 : List (Nat × Value)) (hd : decode cc pc = .ok (.astore j, 2)) (hn : j < mL) (hf : (j, Value.ref x) :: lv.filter (fun q => !(q.1 == j) && !(q.1 + 1 == j && q.2.category == 2)) = lv1) (kk : PW X kc ks F (pc + 2) lv1 st) : PW X kc ks F pc lv (.ref x :: st) := by
  obtain ⟨⟨p, l, e, R, s⟩, ⟨m, args, below, meth, c⟩, ⟨Q, D, cy⟩, ⟨b, n0, nL, sc⟩⟩ := X
  obtain ⟨hx, hb, hml, hown, hts, hK, hsz, hlk, hR, hN, hnL⟩ := hX
  intro hF H locs ls hP hS hl
  exact lv_astore hx hb hd hl (by rw [hnL]; exact hn) (lvm_f1 (b := b) (sc := sc) hf) (fun ls hl => kk hF H locs ls hP hS hl)
theorem pw_lstore_n (hX : Ok X cc own mL rm) {j : Fin 4} {x : Int64} (lv1 : List (Nat × Value)) (hd : decode cc pc = .ok (.lstore_n j, 1)) (hn : (j : Nat) + 1 < mL) (hf : ((j : Nat), Value.long x) :: lv.filter (fun q => !(q.1 == (j : Nat)) && (!(q.1 == (j : Nat) + 1) && !(q.1 + 1 == (j : Nat) && q.2.category == 2))) = lv1) (kk : PW X kc ks F (pc + 1) lv1 st) : PW X kc ks F pc lv (.long x :: st) := by
  obtain ⟨⟨p, l, e, R, s⟩, ⟨m, args, below, meth, c⟩, ⟨Q, D, cy⟩, ⟨b, n0, nL, sc⟩⟩ := X
  obtain ⟨hx, hb, hml, hown, hts, hK, hsz, hlk, hR, hN, hnL⟩ := hX
  intro hF H locs ls hP hS hl
  exact lv_lstore_n hx hb hd rfl hl (by rw [hnL]; exact hn) (lvm_f2 (b := b) (sc := sc) hf) (fun ls hl => kk hF H locs ls hP hS hl)
theorem pw_lstore (hX : Ok X cc own mL rm) {j : Nat} {x : Int64} (lv1 : List (Nat × Value)) (hd : decode cc pc = .ok (.lstore j, 2)) (hn : j + 1 < mL) (hf : (j, Value.long x) :: lv.filter (fun q => !(q.1 == j) && (!(q.1 == j + 1) && !(q.1 + 1 == j && q.2.category == 2))) = lv1) (kk : PW X kc ks F (pc + 2) lv1 st) : PW X kc ks F pc lv (.long x :: st) := by
  obtain ⟨⟨p, l, e, R, s⟩, ⟨m, args, below, meth, c⟩, ⟨Q, D, cy⟩, ⟨b, n0, nL, sc⟩⟩ := X
  obtain ⟨hx, hb, hml, hown, hts, hK, hsz, hlk, hR, hN, hnL⟩ := hX
  intro hF H locs ls hP hS hl
  exact lv_lstore hx hb hd hl (by rw [hnL]; exact hn) (lvm_f2 (b := b) (sc := sc) hf) (fun ls hl => kk hF H locs ls hP hS hl)
theorem pw_astore_nN (hX : Ok X cc own mL rm) {j : Fin 4} (lv1 : List (Nat × Value)) (hd : decode cc pc = .ok (.astore_n j, 1)) (hn : (j : Nat) < mL) (hf : ((j : Nat), Value.null) :: lv.filter (fun q => !(q.1 == (j : Nat)) && !(q.1 + 1 == (j : Nat) && q.2.category == 2)) = lv1) (kk : PW X kc ks F (pc + 1) lv1 st) : PW X kc ks F pc lv (.null :: st) := by
  obtain ⟨⟨p, l, e, R, s⟩, ⟨m, args, below, meth, c⟩, ⟨Q, D, cy⟩, ⟨b, n0, nL, sc⟩⟩ := X
  obtain ⟨hx, hb, hml, hown, hts, hK, hsz, hlk, hR, hN, hnL⟩ := hX
  intro hF H locs ls hP hS hl
  exact lv_astore_nN hx hb hd rfl hl (by rw [hnL]; exact hn) (lvm_f1 (b := b) (sc := sc) hf) (fun ls hl => kk hF H locs ls hP hS hl)
theorem pw_iinc (hX : Ok X cc own mL rm) {j : Nat} {n : Int} {x v : Int32} (lv1 : List (Nat × Value)) (hd : decode cc pc = .ok (.iinc j n, 3)) (k : Nat) (hk : lv[k]? = some (j, .int x)) (hv : x + Int32.ofInt n = v) (hn : j < mL) (hf : (j, Value.int v) :: lv.filter (fun q => !(q.1 == j) && !(q.1 + 1 == j && q.2.category == 2)) = lv1) (kk : PW X kc ks F (pc + 3) lv1 st) : PW X kc ks F pc lv (st) := by
  obtain ⟨⟨p, l, e, R, s⟩, ⟨m, args, below, meth, c⟩, ⟨Q, D, cy⟩, ⟨b, n0, nL, sc⟩⟩ := X
  obtain ⟨hx, hb, hml, hown, hts, hK, hsz, hlk, hR, hN, hnL⟩ := hX
  intro hF H locs ls hP hS hl
  exact lv_iinc hx hb hd hl (lvm_at hk) hv (by rw [hnL]; exact hn) (lvm_f1 (b := b) (sc := sc) hf) (fun ls hl => kk hF H locs ls hP hS hl)
theorem lvm_pick {b sc : Nat} {lv lv1 : List (Nat × Value)} {is : List Nat} (h : lv_pick lv is = lv1) : lv_pick (lv.map (fun q => (q.1, mv b sc q.2))) is = lv1.map (fun q => (q.1, mv b sc q.2)) := by
  rw [← h]
  unfold lv_pick
  rw [List.map_filterMap]
  apply congrArg (fun f => List.filterMap f is)
  funext k
  rw [List.getElem?_map]
theorem pw_sub {lv1 : List (Nat × Value)} (is : List Nat) (h : lv_pick lv is = lv1) (k : PW X kc ks F pc lv1 st) : PW X kc ks F pc lv st := by
  obtain ⟨⟨p, l, e, R, s⟩, ⟨m, args, below, meth, c⟩, ⟨Q, D, cy⟩, ⟨b, n0, nL, sc⟩⟩ := X
  intro hF H locs ls hP hS hl
  exact k hF H locs ls hP hS (lv_sub hl is (lvm_pick h))
theorem pw_dup (hX : Ok X cc own mL rm) {v : Value} (hd : decode cc pc = .ok (.dup, 1)) (hv : v.category = 1) (k : PW X kc ks F (pc + 1) lv (v :: v :: st)) : PW X kc ks F pc lv (v :: st) := by
  obtain ⟨⟨p, l, e, R, s⟩, ⟨m, args, below, meth, c⟩, ⟨Q, D, cy⟩, ⟨b, n0, nL, sc⟩⟩ := X
  obtain ⟨hx, hb, hml, hown, hts, hK, hsz, hlk, hR, hN, hnL⟩ := hX
  intro hF H locs ls hP hS hl
  exact lv_dup hx hb hd ((mv_cat b sc v).trans hv) (k hF H locs ls hP hS hl)
theorem pw_dup2 (hX : Ok X cc own mL rm) {v w : Value} (hd : decode cc pc = .ok (.dup2, 1)) (hv : v.category = 1) (hw : w.category = 1) (k : PW X kc ks F (pc + 1) lv (v :: w :: v :: w :: st)) : PW X kc ks F pc lv (v :: w :: st) := by
  obtain ⟨⟨p, l, e, R, s⟩, ⟨m, args, below, meth, c⟩, ⟨Q, D, cy⟩, ⟨b, n0, nL, sc⟩⟩ := X
  obtain ⟨hx, hb, hml, hown, hts, hK, hsz, hlk, hR, hN, hnL⟩ := hX
  intro hF H locs ls hP hS hl
  exact lv_dup2_11 hx hb hd ((mv_cat b sc v).trans hv) ((mv_cat b sc w).trans hw) (k hF H locs ls hP hS hl)
theorem pw_pop (hX : Ok X cc own mL rm) {v : Value} (hd : decode cc pc = .ok (.pop, 1)) (hv : v.category = 1) (k : PW X kc ks F (pc + 1) lv st) : PW X kc ks F pc lv (v :: st) := by
  obtain ⟨⟨p, l, e, R, s⟩, ⟨m, args, below, meth, c⟩, ⟨Q, D, cy⟩, ⟨b, n0, nL, sc⟩⟩ := X
  obtain ⟨hx, hb, hml, hown, hts, hK, hsz, hlk, hR, hN, hnL⟩ := hX
  intro hF H locs ls hP hS hl
  exact lv_pop hx hb hd ((mv_cat b sc v).trans hv) (k hF H locs ls hP hS hl)
theorem pw_goto (hX : Ok X cc own mL rm) {off : Int} {tgt : Nat} (hd : decode cc pc = .ok (.goto off, 3)) (ht : (pc : Int) + off = (tgt : Int)) (k : PW X kc ks F tgt lv st) : PW X kc ks F pc lv (st) := by
  obtain ⟨⟨p, l, e, R, s⟩, ⟨m, args, below, meth, c⟩, ⟨Q, D, cy⟩, ⟨b, n0, nL, sc⟩⟩ := X
  obtain ⟨hx, hb, hml, hown, hts, hK, hsz, hlk, hR, hN, hnL⟩ := hX
  intro hF H locs ls hP hS hl
  exact lv_goto hx hb hd ht (k hF H locs ls hP hS hl)
theorem pw_if_eq (hX : Ok X cc own mL rm) {x : Int32} {off : Int} {tgt : Nat} {A B : Option α} (hd : decode cc pc = .ok (.ifCond .eq off, 3)) (ht : (pc : Int) + off = (tgt : Int)) (h : (if x = 0 then A else B) = some res) (kt : x = 0 → A = some res → PW X kc ks F tgt lv st) (kf : ¬ x = 0 → B = some res → PW X kc ks F (pc + 3) lv st) : PW X kc ks F pc lv (.int x :: st) := by
  obtain ⟨⟨p, l, e, R, s⟩, ⟨m, args, below, meth, c⟩, ⟨Q, D, cy⟩, ⟨b, n0, nL, sc⟩⟩ := X
  obtain ⟨hx, hb, hml, hown, hts, hK, hsz, hlk, hR, hN, hnL⟩ := hX
  intro hF H locs ls hP hS hl
  exact lv_if_eq hx hb hd ht (fun q => kt q (by rw [if_pos q] at h; exact h) hF H locs ls hP hS hl) (fun q => kf q (by rw [if_neg q] at h; exact h) hF H locs ls hP hS hl)
theorem pw_icmp_eq (hX : Ok X cc own mL rm) {x y : Int32} {off : Int} {tgt : Nat} {A B : Option α} (hd : decode cc pc = .ok (.if_icmp .eq off, 3)) (ht : (pc : Int) + off = (tgt : Int)) (h : (if x = y then A else B) = some res) (kt : x = y → A = some res → PW X kc ks F tgt lv st) (kf : ¬ x = y → B = some res → PW X kc ks F (pc + 3) lv st) : PW X kc ks F pc lv (.int y :: .int x :: st) := by
  obtain ⟨⟨p, l, e, R, s⟩, ⟨m, args, below, meth, c⟩, ⟨Q, D, cy⟩, ⟨b, n0, nL, sc⟩⟩ := X
  obtain ⟨hx, hb, hml, hown, hts, hK, hsz, hlk, hR, hN, hnL⟩ := hX
  intro hF H locs ls hP hS hl
  exact lv_icmp_eq hx hb hd ht (fun q => kt q (by rw [if_pos q] at h; exact h) hF H locs ls hP hS hl) (fun q => kf q (by rw [if_neg q] at h; exact h) hF H locs ls hP hS hl)
theorem pw_if_ne (hX : Ok X cc own mL rm) {x : Int32} {off : Int} {tgt : Nat} {A B : Option α} (hd : decode cc pc = .ok (.ifCond .ne off, 3)) (ht : (pc : Int) + off = (tgt : Int)) (h : (if x = 0 then B else A) = some res) (kt : ¬ x = 0 → A = some res → PW X kc ks F tgt lv st) (kf : x = 0 → B = some res → PW X kc ks F (pc + 3) lv st) : PW X kc ks F pc lv (.int x :: st) := by
  obtain ⟨⟨p, l, e, R, s⟩, ⟨m, args, below, meth, c⟩, ⟨Q, D, cy⟩, ⟨b, n0, nL, sc⟩⟩ := X
  obtain ⟨hx, hb, hml, hown, hts, hK, hsz, hlk, hR, hN, hnL⟩ := hX
  intro hF H locs ls hP hS hl
  exact lv_if_ne hx hb hd ht (fun q => kt q (by rw [if_neg q] at h; exact h) hF H locs ls hP hS hl) (fun q => kf q (by rw [if_pos q] at h; exact h) hF H locs ls hP hS hl)
theorem pw_icmp_ne (hX : Ok X cc own mL rm) {x y : Int32} {off : Int} {tgt : Nat} {A B : Option α} (hd : decode cc pc = .ok (.if_icmp .ne off, 3)) (ht : (pc : Int) + off = (tgt : Int)) (h : (if x = y then B else A) = some res) (kt : ¬ x = y → A = some res → PW X kc ks F tgt lv st) (kf : x = y → B = some res → PW X kc ks F (pc + 3) lv st) : PW X kc ks F pc lv (.int y :: .int x :: st) := by
  obtain ⟨⟨p, l, e, R, s⟩, ⟨m, args, below, meth, c⟩, ⟨Q, D, cy⟩, ⟨b, n0, nL, sc⟩⟩ := X
  obtain ⟨hx, hb, hml, hown, hts, hK, hsz, hlk, hR, hN, hnL⟩ := hX
  intro hF H locs ls hP hS hl
  exact lv_icmp_ne hx hb hd ht (fun q => kt q (by rw [if_neg q] at h; exact h) hF H locs ls hP hS hl) (fun q => kf q (by rw [if_pos q] at h; exact h) hF H locs ls hP hS hl)
theorem pw_if_lt (hX : Ok X cc own mL rm) {x : Int32} {off : Int} {tgt : Nat} {A B : Option α} (hd : decode cc pc = .ok (.ifCond .lt off, 3)) (ht : (pc : Int) + off = (tgt : Int)) (h : (if x < 0 then A else B) = some res) (kt : x < 0 → A = some res → PW X kc ks F tgt lv st) (kf : ¬ x < 0 → B = some res → PW X kc ks F (pc + 3) lv st) : PW X kc ks F pc lv (.int x :: st) := by
  obtain ⟨⟨p, l, e, R, s⟩, ⟨m, args, below, meth, c⟩, ⟨Q, D, cy⟩, ⟨b, n0, nL, sc⟩⟩ := X
  obtain ⟨hx, hb, hml, hown, hts, hK, hsz, hlk, hR, hN, hnL⟩ := hX
  intro hF H locs ls hP hS hl
  exact lv_if_lt hx hb hd ht (fun q => kt q (by rw [if_pos q] at h; exact h) hF H locs ls hP hS hl) (fun q => kf q (by rw [if_neg q] at h; exact h) hF H locs ls hP hS hl)
theorem pw_icmp_lt (hX : Ok X cc own mL rm) {x y : Int32} {off : Int} {tgt : Nat} {A B : Option α} (hd : decode cc pc = .ok (.if_icmp .lt off, 3)) (ht : (pc : Int) + off = (tgt : Int)) (h : (if x < y then A else B) = some res) (kt : x < y → A = some res → PW X kc ks F tgt lv st) (kf : ¬ x < y → B = some res → PW X kc ks F (pc + 3) lv st) : PW X kc ks F pc lv (.int y :: .int x :: st) := by
  obtain ⟨⟨p, l, e, R, s⟩, ⟨m, args, below, meth, c⟩, ⟨Q, D, cy⟩, ⟨b, n0, nL, sc⟩⟩ := X
  obtain ⟨hx, hb, hml, hown, hts, hK, hsz, hlk, hR, hN, hnL⟩ := hX
  intro hF H locs ls hP hS hl
  exact lv_icmp_lt hx hb hd ht (fun q => kt q (by rw [if_pos q] at h; exact h) hF H locs ls hP hS hl) (fun q => kf q (by rw [if_neg q] at h; exact h) hF H locs ls hP hS hl)
theorem pw_if_ge (hX : Ok X cc own mL rm) {x : Int32} {off : Int} {tgt : Nat} {A B : Option α} (hd : decode cc pc = .ok (.ifCond .ge off, 3)) (ht : (pc : Int) + off = (tgt : Int)) (h : (if 0 ≤ x then A else B) = some res) (kt : 0 ≤ x → A = some res → PW X kc ks F tgt lv st) (kf : ¬ 0 ≤ x → B = some res → PW X kc ks F (pc + 3) lv st) : PW X kc ks F pc lv (.int x :: st) := by
  obtain ⟨⟨p, l, e, R, s⟩, ⟨m, args, below, meth, c⟩, ⟨Q, D, cy⟩, ⟨b, n0, nL, sc⟩⟩ := X
  obtain ⟨hx, hb, hml, hown, hts, hK, hsz, hlk, hR, hN, hnL⟩ := hX
  intro hF H locs ls hP hS hl
  exact lv_if_ge hx hb hd ht (fun q => kt q (by rw [if_pos q] at h; exact h) hF H locs ls hP hS hl) (fun q => kf q (by rw [if_neg q] at h; exact h) hF H locs ls hP hS hl)
theorem pw_icmp_ge (hX : Ok X cc own mL rm) {x y : Int32} {off : Int} {tgt : Nat} {A B : Option α} (hd : decode cc pc = .ok (.if_icmp .ge off, 3)) (ht : (pc : Int) + off = (tgt : Int)) (h : (if y ≤ x then A else B) = some res) (kt : y ≤ x → A = some res → PW X kc ks F tgt lv st) (kf : ¬ y ≤ x → B = some res → PW X kc ks F (pc + 3) lv st) : PW X kc ks F pc lv (.int y :: .int x :: st) := by
  obtain ⟨⟨p, l, e, R, s⟩, ⟨m, args, below, meth, c⟩, ⟨Q, D, cy⟩, ⟨b, n0, nL, sc⟩⟩ := X
  obtain ⟨hx, hb, hml, hown, hts, hK, hsz, hlk, hR, hN, hnL⟩ := hX
  intro hF H locs ls hP hS hl
  exact lv_icmp_ge hx hb hd ht (fun q => kt q (by rw [if_pos q] at h; exact h) hF H locs ls hP hS hl) (fun q => kf q (by rw [if_neg q] at h; exact h) hF H locs ls hP hS hl)
theorem pw_if_gt (hX : Ok X cc own mL rm) {x : Int32} {off : Int} {tgt : Nat} {A B : Option α} (hd : decode cc pc = .ok (.ifCond .gt off, 3)) (ht : (pc : Int) + off = (tgt : Int)) (h : (if 0 < x then A else B) = some res) (kt : 0 < x → A = some res → PW X kc ks F tgt lv st) (kf : ¬ 0 < x → B = some res → PW X kc ks F (pc + 3) lv st) : PW X kc ks F pc lv (.int x :: st) := by
  obtain ⟨⟨p, l, e, R, s⟩, ⟨m, args, below, meth, c⟩, ⟨Q, D, cy⟩, ⟨b, n0, nL, sc⟩⟩ := X
  obtain ⟨hx, hb, hml, hown, hts, hK, hsz, hlk, hR, hN, hnL⟩ := hX
  intro hF H locs ls hP hS hl
  exact lv_if_gt hx hb hd ht (fun q => kt q (by rw [if_pos q] at h; exact h) hF H locs ls hP hS hl) (fun q => kf q (by rw [if_neg q] at h; exact h) hF H locs ls hP hS hl)
theorem pw_icmp_gt (hX : Ok X cc own mL rm) {x y : Int32} {off : Int} {tgt : Nat} {A B : Option α} (hd : decode cc pc = .ok (.if_icmp .gt off, 3)) (ht : (pc : Int) + off = (tgt : Int)) (h : (if y < x then A else B) = some res) (kt : y < x → A = some res → PW X kc ks F tgt lv st) (kf : ¬ y < x → B = some res → PW X kc ks F (pc + 3) lv st) : PW X kc ks F pc lv (.int y :: .int x :: st) := by
  obtain ⟨⟨p, l, e, R, s⟩, ⟨m, args, below, meth, c⟩, ⟨Q, D, cy⟩, ⟨b, n0, nL, sc⟩⟩ := X
  obtain ⟨hx, hb, hml, hown, hts, hK, hsz, hlk, hR, hN, hnL⟩ := hX
  intro hF H locs ls hP hS hl
  exact lv_icmp_gt hx hb hd ht (fun q => kt q (by rw [if_pos q] at h; exact h) hF H locs ls hP hS hl) (fun q => kf q (by rw [if_neg q] at h; exact h) hF H locs ls hP hS hl)
theorem pw_if_le (hX : Ok X cc own mL rm) {x : Int32} {off : Int} {tgt : Nat} {A B : Option α} (hd : decode cc pc = .ok (.ifCond .le off, 3)) (ht : (pc : Int) + off = (tgt : Int)) (h : (if x ≤ 0 then A else B) = some res) (kt : x ≤ 0 → A = some res → PW X kc ks F tgt lv st) (kf : ¬ x ≤ 0 → B = some res → PW X kc ks F (pc + 3) lv st) : PW X kc ks F pc lv (.int x :: st) := by
  obtain ⟨⟨p, l, e, R, s⟩, ⟨m, args, below, meth, c⟩, ⟨Q, D, cy⟩, ⟨b, n0, nL, sc⟩⟩ := X
  obtain ⟨hx, hb, hml, hown, hts, hK, hsz, hlk, hR, hN, hnL⟩ := hX
  intro hF H locs ls hP hS hl
  exact lv_if_le hx hb hd ht (fun q => kt q (by rw [if_pos q] at h; exact h) hF H locs ls hP hS hl) (fun q => kf q (by rw [if_neg q] at h; exact h) hF H locs ls hP hS hl)
theorem pw_icmp_le (hX : Ok X cc own mL rm) {x y : Int32} {off : Int} {tgt : Nat} {A B : Option α} (hd : decode cc pc = .ok (.if_icmp .le off, 3)) (ht : (pc : Int) + off = (tgt : Int)) (h : (if x ≤ y then A else B) = some res) (kt : x ≤ y → A = some res → PW X kc ks F tgt lv st) (kf : ¬ x ≤ y → B = some res → PW X kc ks F (pc + 3) lv st) : PW X kc ks F pc lv (.int y :: .int x :: st) := by
  obtain ⟨⟨p, l, e, R, s⟩, ⟨m, args, below, meth, c⟩, ⟨Q, D, cy⟩, ⟨b, n0, nL, sc⟩⟩ := X
  obtain ⟨hx, hb, hml, hown, hts, hK, hsz, hlk, hR, hN, hnL⟩ := hX
  intro hF H locs ls hP hS hl
  exact lv_icmp_le hx hb hd ht (fun q => kt q (by rw [if_pos q] at h; exact h) hF H locs ls hP hS hl) (fun q => kf q (by rw [if_neg q] at h; exact h) hF H locs ls hP hS hl)
theorem pw_tin (hX : Ok X cc own mL rm) {dflt lo hi : Int} {offs : Array Int} {len : Nat} {x v : Int32} {off : Int} {tgt : Nat} (hd : decode cc pc = .ok (.tableswitch dflt lo hi offs, len)) (hv : x = v) (h1 : ¬ v.toInt < lo) (h2 : ¬ hi < v.toInt) (ho : offs[(v.toInt - lo).toNat]? = some off) (ht : (pc : Int) + off = (tgt : Int)) (k : PW X kc ks F tgt lv st) : PW X kc ks F pc lv (.int x :: st) := by
  obtain ⟨⟨p, l, e, R, s⟩, ⟨m, args, below, meth, c⟩, ⟨Q, D, cy⟩, ⟨b, n0, nL, sc⟩⟩ := X
  obtain ⟨hx, hb, hml, hown, hts, hK, hsz, hlk, hR, hN, hnL⟩ := hX
  intro hF H locs ls hP hS hl
  subst hv
  exact lv_tableIn hx hb hd h1 h2 ho ht (k hF H locs ls hP hS hl)
theorem pw_tout (hX : Ok X cc own mL rm) {dflt lo hi : Int} {offs : Array Int} {len : Nat} {x : Int32} {tgt : Nat} (hd : decode cc pc = .ok (.tableswitch dflt lo hi offs, len)) (h : x.toInt < lo ∨ hi < x.toInt) (ht : (pc : Int) + dflt = (tgt : Int)) (k : PW X kc ks F tgt lv st) : PW X kc ks F pc lv (.int x :: st) := by
  obtain ⟨⟨p, l, e, R, s⟩, ⟨m, args, below, meth, c⟩, ⟨Q, D, cy⟩, ⟨b, n0, nL, sc⟩⟩ := X
  obtain ⟨hx, hb, hml, hown, hts, hK, hsz, hlk, hR, hN, hnL⟩ := hX
  intro hF H locs ls hP hS hl
  exact lv_tableOut hx hb hd h ht (k hF H locs ls hP hS hl)
theorem pw_ifnull (hX : Ok X cc own mL rm) {x : Nat} {off : Int} (hd : decode cc pc = .ok (.ifnull off, 3)) (k : PW X kc ks F (pc + 3) lv st) : PW X kc ks F pc lv (.ref x :: st) := by
  obtain ⟨⟨p, l, e, R, s⟩, ⟨m, args, below, meth, c⟩, ⟨Q, D, cy⟩, ⟨b, n0, nL, sc⟩⟩ := X
  obtain ⟨hx, hb, hml, hown, hts, hK, hsz, hlk, hR, hN, hnL⟩ := hX
  intro hF H locs ls hP hS hl
  exact lv_ifnull hx hb hd (k hF H locs ls hP hS hl)
theorem pw_ifnullN (hX : Ok X cc own mL rm) {off : Int} {tgt : Nat} (hd : decode cc pc = .ok (.ifnull off, 3)) (ht : (pc : Int) + off = (tgt : Int)) (k : PW X kc ks F tgt lv st) : PW X kc ks F pc lv (.null :: st) := by
  obtain ⟨⟨p, l, e, R, s⟩, ⟨m, args, below, meth, c⟩, ⟨Q, D, cy⟩, ⟨b, n0, nL, sc⟩⟩ := X
  obtain ⟨hx, hb, hml, hown, hts, hK, hsz, hlk, hR, hN, hnL⟩ := hX
  intro hF H locs ls hP hS hl
  exact lv_ifnullN hx hb hd ht (k hF H locs ls hP hS hl)
theorem pw_ifnonnull (hX : Ok X cc own mL rm) {x : Nat} {off : Int} {tgt : Nat} (hd : decode cc pc = .ok (.ifnonnull off, 3)) (ht : (pc : Int) + off = (tgt : Int)) (k : PW X kc ks F tgt lv st) : PW X kc ks F pc lv (.ref x :: st) := by
  obtain ⟨⟨p, l, e, R, s⟩, ⟨m, args, below, meth, c⟩, ⟨Q, D, cy⟩, ⟨b, n0, nL, sc⟩⟩ := X
  obtain ⟨hx, hb, hml, hown, hts, hK, hsz, hlk, hR, hN, hnL⟩ := hX
  intro hF H locs ls hP hS hl
  exact lv_ifnonnull hx hb hd ht (k hF H locs ls hP hS hl)
theorem pw_ifnonnullN (hX : Ok X cc own mL rm) {off : Int} (hd : decode cc pc = .ok (.ifnonnull off, 3)) (k : PW X kc ks F (pc + 3) lv st) : PW X kc ks F pc lv (.null :: st) := by
  obtain ⟨⟨p, l, e, R, s⟩, ⟨m, args, below, meth, c⟩, ⟨Q, D, cy⟩, ⟨b, n0, nL, sc⟩⟩ := X
  obtain ⟨hx, hb, hml, hown, hts, hK, hsz, hlk, hR, hN, hnL⟩ := hX
  intro hF H locs ls hP hS hl
  exact lv_ifnonnullN hx hb hd (k hF H locs ls hP hS hl)
end ROWS
end
section
/-! memory over the ghost heap -/
def gV (F : Hp) (a ci k : Nat) : Option Value := match F a with
  | .inr (c, fs) => if c = ci then fs[k]? else none
  | .inl _ => none
def gI (F : Hp) (a ci k : Nat) : Option Int32 := match gV F a ci k with
  | some (.int x) => some x
  | _ => none
def gR (F : Hp) (a ci k : Nat) : Option Nat := match gV F a ci k with
  | some (.ref x) => some x
  | _ => none
def gL (F : Hp) (a ci k : Nat) : Option Int64 := match gV F a ci k with
  | some (.long x) => some x
  | _ => none
def pV (F : Hp) (a ci k : Nat) (v : Value) : Option Hp := match F a with
  | .inr (c, fs) => if c = ci ∧ k < fs.length then some (va_up F a (.inr (c, fs.set k v))) else none
  | .inl _ => none
/-- an int row (kind 0) or a boolean row (kind 1): its length and contents -/
def gA (F : Hp) (a kd : Nat) : Option (Nat × (Nat → Int32)) := match F a with
  | .inl (t, n, .inl f) => if t = kd then some (n, f) else none
  | _ => none
def aI (F : Hp) (a kd : Nat) (i : Int32) : Option Int32 := match gA F a kd with
  | some (n, f) => if i < 0 ∨ n ≤ i.toNatClampNeg then none else some (f i.toNatClampNeg)
  | none => none
def sI (F : Hp) (a kd : Nat) (i x : Int32) : Option Hp := match gA F a kd with
  | some (n, f) => if i < 0 ∨ n ≤ i.toNatClampNeg then none else some (va_up F a (.inl (kd, n, .inl (upd f i.toNatClampNeg x))))
  | none => none
/-- a row of references to Doze objects (kind 2) -/
def gQ (F : Hp) (a : Nat) : Option (Nat × (Nat → Option Nat)) := match F a with
  | .inl (t, n, .inr (.inr (.inr (.inr f)))) => if t = 2 then some (n, f) else none
  | _ => none
def aQ (F : Hp) (a : Nat) (i : Int32) : Option (Option Nat) := match gQ F a with
  | some (n, f) => if i < 0 ∨ n ≤ i.toNatClampNeg then none else some (f i.toNatClampNeg)
  | none => none
/-- an object of that kind -/
def isO (F : Hp) (a ci : Nat) : Bool := match F a with
  | .inr (c, _) => decide (c = ci)
  | .inl _ => false
def sQ (F : Hp) (a : Nat) (i : Int32) (v : Nat) : Option Hp := match gQ F a with
  | some (n, f) => if (i < 0 ∨ n ≤ i.toNatClampNeg) ∨ isO F v 1 = false then none else some (va_up F a (.inl (2, n, .inr (.inr (.inr (.inr (va_up f i.toNatClampNeg (some v))))))))
  | none => none
def aN (F : Hp) (a : Nat) : Option Int32 := match F a with
  | .inl (t, n, _) => if t < 3 then some (Int32.ofNat n) else none
  | .inr _ => none
theorem gV_spec {F : Hp} {a ci k : Nat} {v : Value} (h : gV F a ci k = some v) : ∃ fs, F a = .inr (ci, fs) ∧ fs[k]? = some v := by
  unfold gV at h
  split at h
  · next c fs e =>
    split at h
    · next hc => subst hc; exact ⟨fs, e, h⟩
    · cases h
  · cases h
theorem gI_spec {F : Hp} {a ci k : Nat} {x : Int32} (h : gI F a ci k = some x) : ∃ fs, F a = .inr (ci, fs) ∧ fs[k]? = some (.int x) := by
  unfold gI at h
  split at h
  · next y e => cases h; exact gV_spec e
  · cases h
theorem gR_spec {F : Hp} {a ci k : Nat} {x : Nat} (h : gR F a ci k = some x) : ∃ fs, F a = .inr (ci, fs) ∧ fs[k]? = some (.ref x) := by
  unfold gR at h
  split at h
  · next y e => cases h; exact gV_spec e
  · cases h
theorem gL_spec {F : Hp} {a ci k : Nat} {x : Int64} (h : gL F a ci k = some x) : ∃ fs, F a = .inr (ci, fs) ∧ fs[k]? = some (.long x) := by
  unfold gL at h
  split at h
  · next y e => cases h; exact gV_spec e
  · cases h
theorem pV_spec {F F1 : Hp} {a ci k : Nat} {v : Value} (h : pV F a ci k v = some F1) : ∃ fs, F a = .inr (ci, fs) ∧ k < fs.length ∧ F1 = va_up F a (.inr (ci, fs.set k v)) := by
  unfold pV at h
  split at h
  · next c fs e =>
    split at h
    · next hc => obtain ⟨hc, hk⟩ := hc; subst hc; cases h; exact ⟨fs, e, hk, rfl⟩
    · cases h
  · cases h
theorem gA_spec {F : Hp} {a kd n : Nat} {f : Nat → Int32} (h : gA F a kd = some (n, f)) : F a = .inl (kd, n, .inl f) := by
  unfold gA at h
  split at h
  · next t n2 f2 e =>
    split at h
    · next hc => subst hc; cases h; exact e
    · cases h
  · cases h
theorem aI_spec {F : Hp} {a kd : Nat} {i x : Int32} (h : aI F a kd i = some x) : ∃ n f, F a = .inl (kd, n, .inl f) ∧ vp_in i n ∧ x = f i.toNatClampNeg := by
  unfold aI at h
  split at h
  · next n f e =>
    split at h
    · cases h
    · next hc => cases h; exact ⟨n, f, gA_spec e, hc, rfl⟩
  · cases h
theorem sI_spec {F F1 : Hp} {a kd : Nat} {i x : Int32} (h : sI F a kd i x = some F1) : ∃ n f, F a = .inl (kd, n, .inl f) ∧ vp_in i n ∧ F1 = va_up F a (.inl (kd, n, .inl (upd f i.toNatClampNeg x))) := by
  unfold sI at h
  split at h
  · next n f e =>
    split at h
    · cases h
    · next hc => cases h; exact ⟨n, f, gA_spec e, hc, rfl⟩
  · cases h
theorem gQ_spec {F : Hp} {a n : Nat} {f : Nat → Option Nat} (h : gQ F a = some (n, f)) : F a = .inl (2, n, .inr (.inr (.inr (.inr f)))) := by
  unfold gQ at h
  split at h
  · next t n2 f2 e =>
    split at h
    · next hc => subst hc; cases h; exact e
    · cases h
  · cases h
theorem aQ_spec {F : Hp} {a : Nat} {i : Int32} {x : Option Nat} (h : aQ F a i = some x) : ∃ n f, F a = .inl (2, n, .inr (.inr (.inr (.inr f)))) ∧ vp_in i n ∧ x = f i.toNatClampNeg := by
  unfold aQ at h
  split at h
  · next n f e =>
    split at h
    · cases h
    · next hc => cases h; exact ⟨n, f, gQ_spec e, hc, rfl⟩
  · cases h
theorem isO_spec {F : Hp} {a ci : Nat} (h : isO F a ci = true) : ∃ fs, F a = .inr (ci, fs) := by
  unfold isO at h
  split at h
  · next c fs e => have := of_decide_eq_true h; subst this; exact ⟨fs, e⟩
  · cases h
theorem sQ_spec {F F1 : Hp} {a v : Nat} {i : Int32} (h : sQ F a i v = some F1) : ∃ n f, F a = .inl (2, n, .inr (.inr (.inr (.inr f)))) ∧ vp_in i n ∧ (∃ fs, F v = .inr (1, fs)) ∧ F1 = va_up F a (.inl (2, n, .inr (.inr (.inr (.inr (va_up f i.toNatClampNeg (some v))))))) := by
  unfold sQ at h
  split at h
  · next n f e =>
    split at h
    · cases h
    · next hc => cases h; exact ⟨n, f, gQ_spec e, fun q => hc (Or.inl q), isO_spec (by cases ho : isO F v 1 with | true => rfl | false => exact absurd (Or.inr ho) hc), rfl⟩
  · cases h
theorem aN_spec {F : Hp} {a : Nat} {x : Int32} (h : aN F a = some x) : ∃ (t n : Nat) (r : (Nat → Int32) ⊕ (Nat → Int64) ⊕ (Nat → UInt32) ⊕ (Nat → UInt64) ⊕ (Nat → Option Nat)), F a = .inl (t, n, r) ∧ t < 3 ∧ x = Int32.ofNat n := by
  unfold aN at h
  split at h
  · next t n r e =>
    split at h
    · next hc => cases h; exact ⟨t, n, r, e, hc, rfl⟩
    · cases h
  · cases h
theorem dom_r {F : Hp} {n a : Nat} {q : Nat × List Value} (hF : ∀ k, n ≤ k → F k = dd) (h : F a = .inr q) : a < n := by
  rcases Nat.lt_or_ge a n with g | g
  · exact g
  · rw [hF a g] at h; cases h
theorem dom_l {F : Hp} {n a t : Nat} {q : vp_A} (hF : ∀ k, n ≤ k → F k = dd) (h : F a = .inl (t, q)) (ht : t < 3) : a < n := by
  rcases Nat.lt_or_ge a n with g | g
  · exact g
  · rw [hF a g] at h
    unfold dd at h
    cases h
    omega
theorem dom_up {F : Hp} {n a : Nat} {e : va_E} (hF : ∀ k, n ≤ k → F k = dd) (ha : a < n) : ∀ k, n ≤ k → va_up F a e k = dd := fun k hk => by rw [va_up_ne _ _ (by omega)]; exact hF k hk
theorem mE_r {cy : Nat → ClassId} {b ci : Nat} {fs : List Value} : mE cy b (.inr (ci, fs)) = .inr (ci, fs.map (mv b 0)) := rfl
theorem mE_i {cy : Nat → ClassId} {b t n : Nat} {f : Nat → Int32} : mE cy b (.inl (t, n, .inl f)) = .inl (cy t, n, .inl f) := rfl
theorem mE_q {cy : Nat → ClassId} {b t n : Nat} {f : Nat → Option Nat} : mE cy b (.inl (t, n, .inr (.inr (.inr (.inr f))))) = .inl (cy t, n, .inr (.inr (.inr (.inr (fun i => (f i).map (fun q => b + q)))))) := rfl
/-- a link to a field: in the tables, and the kind's words there too -/
def FL (own : String) (idx ci k : Nat) : Prop := ∃ q : vw_C, vwCl[ci]? = some q ∧ k < q.2.2 ∧ Cond.fieldLink own idx (q.2.1 k).1 (q.2.1 k).2.1 (q.2.1 k).2.2.1 ∈ lw_g ∧ ∀ w ∈ u_ws q.1 q.2.1 q.2.2, w ∈ lw_g
def FP (own : String) (idx ci k : Nat) (ty : FieldType) (fin : Bool) : Prop := ∃ (q : vw_C) (ty0 : Nat → FieldType), vwCl[ci]? = some q ∧ k < q.2.2 ∧ Cond.fieldLink own idx (q.2.1 k).1 (q.2.1 k).2.1 (q.2.1 k).2.2.1 ∈ lw_g ∧ (∀ w ∈ u_ws q.1 q.2.1 q.2.2, w ∈ lw_g) ∧ (∀ k, k < q.2.2 → parseFieldDescriptor (q.2.1 k).2.2.1 = some (ty0 k)) ∧ (∀ a, a < q.2.2 → ∀ b, b < q.2.2 → a ≠ b → (q.2.1 a).2.1 ≠ (q.2.1 b).2.1) ∧ (q.2.1 k).2.2.2 = fin ∧ parseFieldDescriptor (q.2.1 k).2.2.1 = some ty ∧ (fin = true → (q.2.1 k).1 = own)
section MEM
variable {X : Cx} {cc : ByteArray} {own : String} {mL : Nat} {rm : Room} {kc ks : Nat} {F : Hp} {pc : Nat} {lv : List (Nat × Value)} {st : List Value} {α : Type} {res : α}
theorem pw_getV (hX : Ok X cc own mL rm) {a ci k idx : Nat} {v : Value} {fs : List Value} (hd : decode cc pc = .ok (.getfield idx, 3)) (hl0 : FL own idx ci k) (hv1 : ∀ b sc, mv b sc v = mv b 0 v) (hFa : F a = .inr (ci, fs)) (hv : fs[k]? = some v) (kk : PW X kc ks F (pc + 3) lv (v :: st)) : PW X kc ks F pc lv (.ref a :: st) := by
  obtain ⟨⟨p, l, e, R, s⟩, ⟨m, args, below, meth, c⟩, ⟨Q, D, cy⟩, ⟨b, n0, nL, sc⟩⟩ := X
  obtain ⟨hx, hb, hml, hown, hts, hK, hsz, hlk, hR, hN, hnL⟩ := hX
  intro hF H locs ls hP hS hl
  obtain ⟨q, hq, hk, hlink, hin⟩ := hl0
  have ha := dom_r hF hFa
  have := kk hF H locs ls hP hS hl
  rw [List.map_cons, hv1 b sc] at this
  exact va_get (D := D) (ci := ci) (fs := fs.map (mv b 0)) (v := mv b 0 v) (C := q.1) (T := q.2.1) (N := q.2.2) hx hb hts hin hown hK hP a (wl_at ha hFa) hq k hk (hts _ hlink) (fun _ h => h) (by rw [List.getElem?_map, hv]; rfl) hd this
theorem pw_getI (hX : Ok X cc own mL rm) {a ci k idx : Nat} {K : Int32 → Option α} (hd : decode cc pc = .ok (.getfield idx, 3)) (hl0 : FL own idx ci k) (h : (gI F a ci k).bind K = some res) (kk : ∀ x, K x = some res → PW X kc ks F (pc + 3) lv (.int x :: st)) : PW X kc ks F pc lv (.ref a :: st) := by
  obtain ⟨x, hx, h⟩ := Option.bind_eq_some_iff.mp h
  obtain ⟨fs, h1, h2⟩ := gI_spec hx
  exact pw_getV hX hd hl0 (fun _ _ => rfl) h1 h2 (kk x h)
theorem pw_getL (hX : Ok X cc own mL rm) {a ci k idx : Nat} {K : Int64 → Option α} (hd : decode cc pc = .ok (.getfield idx, 3)) (hl0 : FL own idx ci k) (h : (gL F a ci k).bind K = some res) (kk : ∀ x, K x = some res → PW X kc ks F (pc + 3) lv (.long x :: st)) : PW X kc ks F pc lv (.ref a :: st) := by
  obtain ⟨x, hx, h⟩ := Option.bind_eq_some_iff.mp h
  obtain ⟨fs, h1, h2⟩ := gL_spec hx
  exact pw_getV hX hd hl0 (fun _ _ => rfl) h1 h2 (kk x h)
theorem pw_getR (hX : Ok X cc own mL rm) {a ci k idx : Nat} {K : Nat → Option α} (hd : decode cc pc = .ok (.getfield idx, 3)) (hl0 : FL own idx ci k) (h : (gR F a ci k).bind K = some res) (kk : ∀ x, K x = some res → PW X kc ks F (pc + 3) lv (.ref x :: st)) : PW X kc ks F pc lv (.ref a :: st) := by
  obtain ⟨x, hx, h⟩ := Option.bind_eq_some_iff.mp h
  obtain ⟨fs, h1, h2⟩ := gR_spec hx
  exact pw_getV hX hd hl0 (fun _ _ => rfl) h1 h2 (kk x h)
theorem pw_putV (hX : Ok X cc own mL rm) {a ci k idx : Nat} {v : Value} {ty : FieldType} {fs : List Value} (hd : decode cc pc = .ok (.putfield idx, 3)) (hl0 : FP own idx ci k ty false) (hv1 : ∀ b sc, mv b sc v = mv b 0 v) (hn : ∀ b, narrow ty (mv b 0 v) = mv b 0 v) (hfit : ∀ b, fits ty (mv b 0 v) = true) (hFa : F a = .inr (ci, fs)) (hv : k < fs.length) (kk : PW X kc ks (va_up F a (.inr (ci, fs.set k v))) (pc + 3) lv st) : PW X kc ks F pc lv (v :: .ref a :: st) := by
  obtain ⟨⟨p, l, e, R, s⟩, ⟨m, args, below, meth, c⟩, ⟨Q, D, cy⟩, ⟨b, n0, nL, sc⟩⟩ := X
  obtain ⟨hx, hb, hml, hown, hts, hK, hsz, hlk, hR, hN, hnL⟩ := hX
  intro hF H locs ls hP hS hl
  obtain ⟨q, ty0, hq, hk, hlink, hin, hty, hnm, hfin, hpd, -⟩ := hl0
  have ha := dom_r hF hFa
  rw [List.map_cons, hv1 b sc]
  refine va_put (D := D) (ci := ci) (fs := fs.map (mv b 0)) (v := mv b 0 v) (ty := ty) (C := q.1) (T := q.2.1) (N := q.2.2) hx hb hts hin ty0 hty hnm hown hK hP wl_D hS a (wl_at ha hFa) hq k hk (hts _ hlink) (fun _ h => h) hfin hpd (hn b) (hfit b) (by rw [List.length_map]; exact hv) hd (fun H1 locs1 hP1 _ hS1 => ?_)
  refine kk (dom_up hF ha) H1 locs1 ls ?_ hS1 hl
  rw [← List.map_set, ← mE_r (cy := cy), wl_set] at hP1
  exact hP1
theorem pw_putI (hX : Ok X cc own mL rm) {a ci k idx : Nat} {x : Int32} {K : Hp → Option α} (hd : decode cc pc = .ok (.putfield idx, 3)) (hl0 : FP own idx ci k .int false) (h : (pV F a ci k (.int x)).bind K = some res) (kk : ∀ F1, K F1 = some res → PW X kc ks F1 (pc + 3) lv st) : PW X kc ks F pc lv (.int x :: .ref a :: st) := by
  obtain ⟨F1, hx, h⟩ := Option.bind_eq_some_iff.mp h
  obtain ⟨fs, h1, h2, rfl⟩ := pV_spec hx
  exact pw_putV hX hd hl0 (fun _ _ => rfl) (fun _ => rfl) (fun _ => rfl) h1 h2 (kk _ h)
theorem pw_putL (hX : Ok X cc own mL rm) {a ci k idx : Nat} {x : Int64} {K : Hp → Option α} (hd : decode cc pc = .ok (.putfield idx, 3)) (hl0 : FP own idx ci k .long false) (h : (pV F a ci k (.long x)).bind K = some res) (kk : ∀ F1, K F1 = some res → PW X kc ks F1 (pc + 3) lv st) : PW X kc ks F pc lv (.long x :: .ref a :: st) := by
  obtain ⟨F1, hx, h⟩ := Option.bind_eq_some_iff.mp h
  obtain ⟨fs, h1, h2, rfl⟩ := pV_spec hx
  exact pw_putV hX hd hl0 (fun _ _ => rfl) (fun _ => rfl) (fun _ => rfl) h1 h2 (kk _ h)
/-- a boolean field: the ghost tests that it is 0 or 1 -/
def pZ (F : Hp) (a ci k : Nat) (x : Int32) : Option Hp := if x = 0 ∨ x = 1 then pV F a ci k (.int x) else none
theorem pw_putZ (hX : Ok X cc own mL rm) {a ci k idx : Nat} {x : Int32} {K : Hp → Option α} (hd : decode cc pc = .ok (.putfield idx, 3)) (hl0 : FP own idx ci k .boolean false) (h : (pZ F a ci k x).bind K = some res) (kk : ∀ F1, K F1 = some res → PW X kc ks F1 (pc + 3) lv st) : PW X kc ks F pc lv (.int x :: .ref a :: st) := by
  obtain ⟨F1, hx, h⟩ := Option.bind_eq_some_iff.mp h
  unfold pZ at hx
  split at hx
  · next hz =>
    obtain ⟨fs, h1, h2, rfl⟩ := pV_spec hx
    exact pw_putV hX hd hl0 (fun _ _ => rfl) (fun _ => by rcases hz with rfl | rfl <;> rfl) (fun _ => by rcases hz with rfl | rfl <;> rfl) h1 h2 (kk _ h)
  · cases hx
theorem pw_iald (hX : Ok X cc own mL rm) {a : Nat} {i : Int32} {K : Int32 → Option α} (hd : decode cc pc = .ok (.iaload, 1)) (h : (aI F a 0 i).bind K = some res) (kk : ∀ x, K x = some res → PW X kc ks F (pc + 1) lv (.int x :: st)) : PW X kc ks F pc lv (.int i :: .ref a :: st) := by
  obtain ⟨x, hx0, h⟩ := Option.bind_eq_some_iff.mp h
  obtain ⟨n, f, h1, h2, rfl⟩ := aI_spec hx0
  obtain ⟨⟨p, l, e, R, s⟩, ⟨m, args, below, meth, c⟩, ⟨Q, D, cy⟩, ⟨b, n0, nL, sc⟩⟩ := X
  obtain ⟨hx, hb, hml, hown, hts, hK, hsz, hlk, hR, hN, hnL⟩ := hX
  intro hF H locs ls hP hS hl
  exact va_iald hx hb hK hP a 0 (wl_at (dom_l hF h1 (by omega)) h1) rfl h2 hd (kk _ h hF H locs ls hP hS hl)
theorem pw_zald (hX : Ok X cc own mL rm) {a : Nat} {i : Int32} {K : Int32 → Option α} (hd : decode cc pc = .ok (.baload, 1)) (h : (aI F a 1 i).bind K = some res) (kk : ∀ x, K x = some res → PW X kc ks F (pc + 1) lv (.int x :: st)) : PW X kc ks F pc lv (.int i :: .ref a :: st) := by
  obtain ⟨x, hx0, h⟩ := Option.bind_eq_some_iff.mp h
  obtain ⟨n, f, h1, h2, rfl⟩ := aI_spec hx0
  obtain ⟨⟨p, l, e, R, s⟩, ⟨m, args, below, meth, c⟩, ⟨Q, D, cy⟩, ⟨b, n0, nL, sc⟩⟩ := X
  obtain ⟨hx, hb, hml, hown, hts, hK, hsz, hlk, hR, hN, hnL⟩ := hX
  intro hF H locs ls hP hS hl
  exact va_zald hx hb hK hP a 1 (wl_at (dom_l hF h1 (by omega)) h1) rfl h2 hd (kk _ h hF H locs ls hP hS hl)
theorem pw_iast (hX : Ok X cc own mL rm) {a : Nat} {i x : Int32} {K : Hp → Option α} (hd : decode cc pc = .ok (.iastore, 1)) (h : (sI F a 0 i x).bind K = some res) (kk : ∀ F1, K F1 = some res → PW X kc ks F1 (pc + 1) lv st) : PW X kc ks F pc lv (.int x :: .int i :: .ref a :: st) := by
  obtain ⟨F1, hx0, h⟩ := Option.bind_eq_some_iff.mp h
  obtain ⟨n, f, h1, h2, rfl⟩ := sI_spec hx0
  obtain ⟨⟨p, l, e, R, s⟩, ⟨m, args, below, meth, c⟩, ⟨Q, D, cy⟩, ⟨b, n0, nL, sc⟩⟩ := X
  obtain ⟨hx, hb, hml, hown, hts, hK, hsz, hlk, hR, hN, hnL⟩ := hX
  intro hF H locs ls hP hS hl
  have ha := dom_l hF h1 (by omega)
  refine va_iast hx hb hK hP wl_D hS a 0 (wl_at ha h1) rfl h2 hd (fun H1 locs1 hP1 _ hS1 => ?_)
  refine kk _ h (dom_up hF ha) H1 locs1 ls ?_ hS1 hl
  rw [← mE_i (cy := cy) (b := b), wl_set] at hP1
  exact hP1
theorem pw_zast (hX : Ok X cc own mL rm) {a : Nat} {i x : Int32} {K : Hp → Option α} (hd : decode cc pc = .ok (.bastore, 1)) (hz : vp_nar .boolean x = x) (h : (sI F a 1 i x).bind K = some res) (kk : ∀ F1, K F1 = some res → PW X kc ks F1 (pc + 1) lv st) : PW X kc ks F pc lv (.int x :: .int i :: .ref a :: st) := by
  obtain ⟨F1, hx0, h⟩ := Option.bind_eq_some_iff.mp h
  obtain ⟨n, f, h1, h2, rfl⟩ := sI_spec hx0
  obtain ⟨⟨p, l, e, R, s⟩, ⟨m, args, below, meth, c⟩, ⟨Q, D, cy⟩, ⟨b, n0, nL, sc⟩⟩ := X
  obtain ⟨hx, hb, hml, hown, hts, hK, hsz, hlk, hR, hN, hnL⟩ := hX
  intro hF H locs ls hP hS hl
  have ha := dom_l hF h1 (by omega)
  refine va_zast hx hb hK hP wl_D hS a 1 (wl_at ha h1) rfl h2 hd (fun H1 locs1 hP1 _ hS1 => ?_)
  refine kk _ h (dom_up hF ha) H1 locs1 ls ?_ hS1 hl
  rw [hz, ← mE_i (cy := cy) (b := b), wl_set] at hP1
  exact hP1
theorem pw_alen (hX : Ok X cc own mL rm) {a : Nat} {K : Int32 → Option α} (hd : decode cc pc = .ok (.arraylength, 1)) (h : (aN F a).bind K = some res) (kk : ∀ x, K x = some res → PW X kc ks F (pc + 1) lv (.int x :: st)) : PW X kc ks F pc lv (.ref a :: st) := by
  obtain ⟨x, hx0, h⟩ := Option.bind_eq_some_iff.mp h
  obtain ⟨t, n, r, h1, h2, rfl⟩ := aN_spec hx0
  obtain ⟨⟨p, l, e, R, s⟩, ⟨m, args, below, meth, c⟩, ⟨Q, D, cy⟩, ⟨b, n0, nL, sc⟩⟩ := X
  obtain ⟨hx, hb, hml, hown, hts, hK, hsz, hlk, hR, hN, hnL⟩ := hX
  intro hF H locs ls hP hS hl
  have ha := dom_l hF h1 h2
  have hlen : (mA b (n, r)).1 = n := by unfold mA; split <;> first | (next e => cases e; rfl) | rfl
  have hw := wl_at (cy := cy) (b := b) ha h1
  rcases (show t = 0 ∨ t = 1 ∨ t = 2 by omega) with rfl | rfl | rfl
  · exact va_alen hx hb hK hP a 0 (x := mA b (n, r)) hw rfl (by rw [hlen]) hd (kk _ h hF H locs ls hP hS hl)
  · exact va_alen hx hb hK hP a 1 (x := mA b (n, r)) hw rfl (by rw [hlen]) hd (kk _ h hF H locs ls hP hS hl)
  · exact va_alen hx hb hK hP a 2 (x := mA b (n, r)) hw rfl (by rw [hlen]) hd (kk _ h hF H locs ls hP hS hl)
/-- a row of references: the two cases of what is read -/
theorem pw_aald (hX : Ok X cc own mL rm) {a : Nat} {i : Int32} {K : Option Nat → Option α} (hd : decode cc pc = .ok (.aaload, 1)) (h : (aQ F a i).bind K = some res) (k0 : K none = some res → PW X kc ks F (pc + 1) lv (.null :: st)) (k1 : ∀ q, K (some q) = some res → PW X kc ks F (pc + 1) lv (.ref q :: st)) : PW X kc ks F pc lv (.int i :: .ref a :: st) := by
  obtain ⟨x, hx0, h⟩ := Option.bind_eq_some_iff.mp h
  obtain ⟨n, f, h1, h2, hxe⟩ := aQ_spec hx0
  obtain ⟨⟨p, l, e, R, s⟩, ⟨m, args, below, meth, c⟩, ⟨Q, D, cy⟩, ⟨b, n0, nL, sc⟩⟩ := X
  obtain ⟨hx, hb, hml, hown, hts, hK, hsz, hlk, hR, hN, hnL⟩ := hX
  intro hF H locs ls hP hS hl
  have hw := wl_at (cy := cy) (b := b) (dom_l hF h1 (by omega)) h1
  refine va_aldq hx hb hK hP a 2 hw rfl h2 hd ?_
  rw [← hxe]
  cases x with
  | none => exact k0 h hF H locs ls hP hS hl
  | some q => exact k1 q h hF H locs ls hP hS hl
theorem pw_aast (hX : Ok X cc own mL rm) {a v : Nat} {i : Int32} {K : Hp → Option α} (hd : decode cc pc = .ok (.aastore, 1)) (h : (sQ F a i v).bind K = some res) (kk : ∀ F1, K F1 = some res → PW X kc ks F1 (pc + 1) lv st) : PW X kc ks F pc lv (.ref v :: .int i :: .ref a :: st) := by
  obtain ⟨F1, hx0, h⟩ := Option.bind_eq_some_iff.mp h
  obtain ⟨n, f, h1, h2, ⟨fs, h3⟩, rfl⟩ := sQ_spec hx0
  obtain ⟨⟨p, l, e, R, s⟩, ⟨m, args, below, meth, c⟩, ⟨Q, D, cy⟩, ⟨b, n0, nL, sc⟩⟩ := X
  obtain ⟨hx, hb, hml, hown, hts, hK, hsz, hlk, hR, hN, hnL⟩ := hX
  intro hF H locs ls hP hS hl
  have ha := dom_l hF h1 (by omega)
  have hw := wl_at (cy := cy) (b := b) ha h1
  have hw2 := wl_at (cy := cy) (b := b) (dom_r hF h3) h3
  refine va_astq (r := (RX1, TX1, 14)) hx hb hK hP wl_D hS a 2 v 1 hw rfl hw2 rfl h2 hd (fun H1 locs1 hP1 _ hS1 => ?_)
  refine kk _ h (dom_up hF ha) H1 locs1 ls ?_ hS1 hl
  have he : va_up (fun i => (f i).map (fun q => b + q)) i.toNatClampNeg (some (b + v)) = fun j => (va_up f i.toNatClampNeg (some v) j).map (fun q => b + q) := by
    funext j
    by_cases hj : j = i.toNatClampNeg
    · subst hj; rw [va_up_self, va_up_self]; rfl
    · rw [va_up_ne _ _ hj, va_up_ne _ _ hj]
  rw [he, ← mE_q (cy := cy) (b := b), wl_set] at hP1
  exact hP1
end MEM
end
section
/-! calls, returns, contracts -/
theorem tbl_in {y : MethodName} {cc : ByteArray} {maxL : Nat} {ret : Option FieldType} (h : Cond.code y cc maxL ret ∈ lw_g) : GoodIn lw_g (Cond.code y cc maxL ret :: lw_g) := fun w hw => by
  have hm : w ∈ lw_g := (List.mem_cons.mp hw).elim (fun e => e ▸ h) id
  exact ⟨hm, good_of_word (List.mem_filter.mp hm).2⟩
theorem W_sz {p : Program} {l : Launch} {e : Env} {R : Room} {s : State} {m : MethodId} {args : Array Value} {below : List Frame} {meth : Method} {c : Code} {H : Heap} {locs : List Loc} {cells slots : Nat} {Q : State → Prop} {g : JFrame} (k : H.size ≤ s.heap.size + cells → W p l e R s m args below meth c H locs cells slots Q g) : W p l e R s m args below meth c H locs cells slots Q g := fun T hT X => k (by
  have h := X.same.2.2.1
  rw [← hT]
  exact h) T hT X
theorem W_call {p : Program} {l : Launch} {e : Env} {R : Room} {s : State} {m : MethodId} {args : Array Value} {below : List Frame} {meth : Method} {c : Code} {H : Heap} {locs : List Loc} {cells slots mc ms : Nat} {Q : State → Prop} {pc : Nat} {ls : Array Slot} {st0 rest : List Value} {D : va_G} {cy : Nat → ClassId} {b n : Nat} {rv : Option Value} {F1 : Hp} {a : Array Value}
    (hr : va_Run p l e R s m args below meth c H locs cells slots mc ms (F0 m pc ls st0) rest (gQc D cy b n rv F1 a) (fun q => b ≤ q)) (hS : va_S (fun q : Nat => b ≤ q) s.heap H locs)
    (kk : ∀ (H1 : Heap) (locs1 : List Loc), va_P D vwCl (wl cy b n F1) H1 → va_S (fun q : Nat => b ≤ q) s.heap H1 locs1 → (∀ k, n ≤ k → F1 k = dd) → W p l e R s m args below meth c H1 locs1 (cells + mc) (slots + ms) Q (F0 m (pc + 3) ls ((rv.map (mv b 0)).toList ++ rest))) : W p l e R s m args below meth c H locs cells slots Q (F0 m pc ls st0) := by
  intro T hT X
  obtain ⟨v, st₀, t, T', L, h0, X', hL, e1, e2, ⟨hv, hP1, hF1, hdm⟩, st⟩ := hr T hT X
  cases hv
  obtain ⟨hz, hk⟩ := hF1
  rw [h0] at hz hk
  obtain ⟨t2, a1, b1⟩ := kk T'.heap (locs ++ L) (by rw [e1]; exact hP1) ⟨Nat.le_trans hS.1 (by rw [e1]; exact hz), fun q h1 h2 => by rw [e1, hk q (Nat.lt_of_lt_of_le h1 hS.1) h2]; exact hS.2.1 q h1 h2, fun q hq => (List.mem_append.mp hq).elim (hS.2.2 q) (hL q)⟩ hdm T' rfl X'
  exact ⟨t2, st t2 a1, b1⟩
theorem wl_size {D : va_G} {cy : Nat → ClassId} {b n : Nat} {F : Hp} {H : Heap} (hP : va_P D vwCl (wl cy b n F) H) (hb : b ≤ H.size) : b + n ≤ H.size := by
  cases n with
  | zero => exact hb
  | succ n =>
    have := (hP n _ (wl_get (Nat.lt_succ_self n))).lt
    have e : (b + n, mE cy b (F n)).1 = b + n := rfl
    omega
/-- a link to a method, its code, its parameters -/
def ML (own : String) (idx : Nat) (y : MethodName) (yb : ByteArray) (maxL : Nat) (ret : Option FieldType) (n : Nat) : Prop := Cond.methodLink own idx y ∈ lw_g ∧ Cond.code y yb maxL ret ∈ lw_g ∧ Cond.initialized y.cls ∈ lw_g ∧ y.cls ≠ "java/lang/invoke/MethodHandle" ∧ y.cls ≠ "java/lang/invoke/VarHandle" ∧ (parseMethodDescriptor y.desc).map (fun d => d.parameters.length) = some n
def VL (own : String) (idx ci : Nat) (y : MethodName) (yb : ByteArray) (maxL : Nat) (ret : Option FieldType) (n : Nat) : Prop := ML own idx y yb maxL ret n ∧ Cond.instanceMethod y ∈ lw_g ∧ Cond.selects y.cls y y ∈ lw_g ∧ ∃ q : vw_C, vwCl[ci]? = some q ∧ q.1 = y.cls
def SL (own : String) (idx : Nat) (y : MethodName) (yb : ByteArray) (maxL : Nat) (ret : Option FieldType) (n : Nat) : Prop := ML own idx y yb maxL ret n ∧ Cond.static y ∈ lw_g
def NL (own : String) (idx : Nat) (y : MethodName) (yb : ByteArray) (maxL : Nat) (ret : Option FieldType) (n : Nat) : Prop := (∃ host : String, ∀ s : State, NW s → va_Nw (.methodLinkNest own idx y host) s) ∧ Cond.code y yb maxL ret ∈ lw_g ∧ Cond.initialized y.cls ∈ lw_g ∧ (y.cls ≠ "java/lang/invoke/MethodHandle" ∧ y.cls ≠ "java/lang/invoke/VarHandle" ∧ (parseMethodDescriptor y.desc).map (fun d => d.parameters.length) = some n) ∧ Cond.static y ∈ lw_g
def nofl (vs : List Value) : Prop := ∀ b sc, vs.map (mv b sc) = vs.map (mv b 0)
def rmd (d : Nat) : Room := { frames := d, cells := 0, slots := 0, locals := 40 * d }
def ckO {α : Type} (F : Hp) (a ci : Nat) (A : Option α) : Option α := match isO F a ci with
  | true => A
  | false => none
def bnd2 {α β γ : Type} (o : Option (α × β)) (K : α → β → Option γ) : Option γ := match o with
  | some (a, b) => K a b
  | none => none
theorem ckO_spec {α : Type} {F : Hp} {a ci : Nat} {A : Option α} {res : α} (h : ckO F a ci A = some res) : isO F a ci = true ∧ A = some res := by
  unfold ckO at h
  split at h
  · next e => exact ⟨e, h⟩
  · cases h
theorem bnd2_spec {α β γ : Type} {o : Option (α × β)} {K : α → β → Option γ} {res : γ} (h : bnd2 o K = some res) : ∃ a b, o = some (a, b) ∧ K a b = some res := by
  unfold bnd2 at h
  split at h
  · next a b => exact ⟨a, b, rfl, h⟩
  · cases h
section CALLS
variable {X : Cx} {cc : ByteArray} {own : String} {mL : Nat} {rm : Room} {kc ks : Nat} {F F1 : Hp} {pc : Nat} {lv : List (Nat × Value)} {st : List Value} {α : Type} {res : α} {y : MethodName} {yb : ByteArray} {maxL : Nat} {yret : Option FieldType} {rmc : Room} {as : List Value} {rv : Option Value} {idx : Nat}
theorem pw_runV (hX : Ok X cc own mL rm) {a ci : Nat} (hd : decode cc pc = .ok (.invokevirtual idx, 3)) (hL : VL own idx ci y yb maxL yret as.length) (ho : isO F a ci = true) (hM : ∀ n, CT y yb maxL yret rmc n F (.ref a :: as) rv F1) (hr : rmc.frames + 1 ≤ rm.frames ∧ 8 + (maxL + 11) + rmc.locals ≤ rm.locals) (hrc : kc + rmc.cells ≤ rm.cells ∧ ks + rmc.slots ≤ rm.slots) (hst : (st.map fun v => v.category).sum ≤ 8) (hnf : nofl as) (hrf : nofl rv.toList) (stk : List Value) (hstk : stk = as.reverse ++ .ref a :: st)
    (kk : PW X (kc + rmc.cells) (ks + rmc.slots) F1 (pc + 3) lv (rv.toList ++ st)) : PW X kc ks F pc lv stk := by
  obtain ⟨⟨p, l, e, R, s⟩, ⟨m, args, below, meth, c⟩, ⟨Q, D, cy⟩, ⟨b, n0, nL, sc⟩⟩ := X
  obtain ⟨hx, hb, hml, hown, hts, hK, hsz, hlk, rfl, hN, hnL⟩ := hX
  intro hF H locs ls hP hS hl
  refine W_sz (fun hH => ?_)
  obtain ⟨⟨h1, h2, h3, h4, h5, h6⟩, h7, h8, q, hq, hqc⟩ := hL
  obtain ⟨fs, hFa⟩ := isO_spec ho
  have hsize : H.size = b + (n0 + kc) := by
    have := wl_size hP (by have := hS.1; omega)
    omega
  subst hstk
  refine W_call (mc := rmc.cells) (ms := rmc.slots) (rest := st.map (mv b sc)) (n := n0 + kc + rmc.cells) (rv := rv) (F1 := F1) (D := D) (cy := cy) (a := (Value.ref (b + a) :: as.map (mv b sc)).toArray) (va_runV (C := y.cls) (b := b + a) (As := as.map (mv b sc)) ⟨hx, hb, hml, hown, hts⟩ (hM (n0 + kc) l D cy b) ⟨callB_of (n := as.length) hts (tbl_in h2) rfl rfl rfl (hts _ h3) (hts _ h1) ⟨h4, h5, h6⟩ hr, hts _ h7, hts _ h8⟩ ⟨gPc_blind D cy b (n0 + kc) F _, ?_, fun U hU hW => ⟨?_, by rw [hU]; exact hsize, by rw [hU]; exact hP, va_K.moved hW.alike hK, hN.warm hW, hF⟩⟩ rfl (by rw [List.length_map]) (hl.1.trans rfl) ?_ (lv_room (by rw [mv_cats]; exact hst)) hd hrc) hS (fun H1 locs1 hP1 hS1 hd1 => ?_)
  · have := va_recv (a := b + a) (q0 := a) (ci := ci) (fs := fs.map (mv b 0)) hK hP hq (wl_at (dom_r hF hFa) hFa)
    rw [hqc] at this
    exact this
  · rw [List.map_cons, hnf b sc]; rfl
  · simp [List.map_append, List.map_reverse, mv]
  · have := kk (by rw [← Nat.add_assoc]; exact hd1) H1 locs1 ls (by rw [← Nat.add_assoc]; exact hP1) hS1 hl
    rw [List.map_append, hrf b sc] at this
    cases rv <;> exact this
theorem pw_runS (hX : Ok X cc own mL rm) (hd : decode cc pc = .ok (.invokestatic idx, 3)) (hL : SL own idx y yb maxL yret as.length) (hM : ∀ n, CT y yb maxL yret rmc n F as rv F1) (hr : rmc.frames + 1 ≤ rm.frames ∧ 8 + (maxL + 11) + rmc.locals ≤ rm.locals) (hrc : kc + rmc.cells ≤ rm.cells ∧ ks + rmc.slots ≤ rm.slots) (hst : (st.map fun v => v.category).sum ≤ 8) (hnf : nofl as) (hrf : nofl rv.toList) (stk : List Value) (hstk : stk = as.reverse ++ st)
    (kk : PW X (kc + rmc.cells) (ks + rmc.slots) F1 (pc + 3) lv (rv.toList ++ st)) : PW X kc ks F pc lv stk := by
  obtain ⟨⟨p, l, e, R, s⟩, ⟨m, args, below, meth, c⟩, ⟨Q, D, cy⟩, ⟨b, n0, nL, sc⟩⟩ := X
  obtain ⟨hx, hb, hml, hown, hts, hK, hsz, hlk, rfl, hN, hnL⟩ := hX
  intro hF H locs ls hP hS hl
  refine W_sz (fun hH => ?_)
  obtain ⟨⟨h1, h2, h3, h4, h5, h6⟩, h7⟩ := hL
  have hsize : H.size = b + (n0 + kc) := by
    have := wl_size hP (by have := hS.1; omega)
    omega
  subst hstk
  refine W_call (mc := rmc.cells) (ms := rmc.slots) (rest := st.map (mv b sc)) (n := n0 + kc + rmc.cells) (rv := rv) (F1 := F1) (D := D) (cy := cy) (a := (as.map (mv b sc)).toArray) (va_runS (As := as.map (mv b sc)) ⟨hx, hb, hml, hown, hts⟩ (hM (n0 + kc) l D cy b) ⟨callB_of (n := as.length) hts (tbl_in h2) rfl rfl rfl (hts _ h3) (hts _ h1) ⟨h4, h5, h6⟩ hr, hts _ h7⟩ ⟨gPc_blind D cy b (n0 + kc) F _, fun U hU hW => ⟨?_, by rw [hU]; exact hsize, by rw [hU]; exact hP, va_K.moved hW.alike hK, hN.warm hW, hF⟩⟩ rfl (by rw [List.length_map]) (hl.1.trans rfl) ?_ (lv_room (by rw [mv_cats]; exact hst)) hd hrc) hS (fun H1 locs1 hP1 hS1 hd1 => ?_)
  · rw [hnf b sc]
  · simp [List.map_append, List.map_reverse]
  · have := kk (by rw [← Nat.add_assoc]; exact hd1) H1 locs1 ls (by rw [← Nat.add_assoc]; exact hP1) hS1 hl
    rw [List.map_append, hrf b sc] at this
    cases rv <;> exact this
theorem pw_runN (hX : Ok X cc own mL rm) (hd : decode cc pc = .ok (.invokestatic idx, 3)) (hL : NL own idx y yb maxL yret as.length) (hM : ∀ n, CT y yb maxL yret rmc n F as rv F1) (hr : rmc.frames + 1 ≤ rm.frames ∧ 8 + (maxL + 11) + rmc.locals ≤ rm.locals) (hrc : kc + rmc.cells ≤ rm.cells ∧ ks + rmc.slots ≤ rm.slots) (hst : (st.map fun v => v.category).sum ≤ 8) (hnf : nofl as) (hrf : nofl rv.toList) (stk : List Value) (hstk : stk = as.reverse ++ st)
    (kk : PW X (kc + rmc.cells) (ks + rmc.slots) F1 (pc + 3) lv (rv.toList ++ st)) : PW X kc ks F pc lv stk := by
  obtain ⟨⟨p, l, e, R, s⟩, ⟨m, args, below, meth, c⟩, ⟨Q, D, cy⟩, ⟨b, n0, nL, sc⟩⟩ := X
  obtain ⟨hx, hb, hml, hown, hts, hK, hsz, hlk, rfl, hN, hnL⟩ := hX
  intro hF H locs ls hP hS hl
  refine W_sz (fun hH => ?_)
  obtain ⟨⟨host, h1⟩, h2, h3, ⟨h4, h5, h6⟩, h7⟩ := hL
  have hsize : H.size = b + (n0 + kc) := by
    have := wl_size hP (by have := hS.1; omega)
    omega
  subst hstk
  refine W_call (mc := rmc.cells) (ms := rmc.slots) (rest := st.map (mv b sc)) (n := n0 + kc + rmc.cells) (rv := rv) (F1 := F1) (D := D) (cy := cy) (a := (as.map (mv b sc)).toArray) (va_runSN (host := host) (As := as.map (mv b sc)) ⟨hx, hb, hml, hown, hts⟩ (hM (n0 + kc) l D cy b) ⟨va_cnB as.length hts (tbl_in h2) rfl rfl rfl (h1 s hN) (hts _ h3) ⟨h4, h5, h6⟩ hr, hts _ h7, trivial⟩ ⟨gPc_blind D cy b (n0 + kc) F _, fun U hU hW => ⟨?_, by rw [hU]; exact hsize, by rw [hU]; exact hP, va_K.moved hW.alike hK, hN.warm hW, hF⟩⟩ rfl (by rw [List.length_map]) (hl.1.trans rfl) ?_ (lv_room (by rw [mv_cats]; exact hst)) hd hrc) hS (fun H1 locs1 hP1 hS1 hd1 => ?_)
  · rw [hnf b sc]
  · simp [List.map_append, List.map_reverse]
  · have := kk (by rw [← Nat.add_assoc]; exact hd1) H1 locs1 ls (by rw [← Nat.add_assoc]; exact hP1) hS1 hl
    rw [List.map_append, hrf b sc] at this
    cases rv <;> exact this
end CALLS
section CALLT
variable {X : Cx} {cc : ByteArray} {own : String} {mL : Nat} {rm : Room} {kc ks : Nat} {F : Hp} {pc : Nat} {lv : List (Nat × Value)} {st : List Value} {α : Type} {res : α} {y : MethodName} {yb : ByteArray} {maxL d : Nat} {yret : Option FieldType} {as : List Value} {idx : Nat}
theorem pw_VI (hX : Ok X cc own mL rm) {a ci : Nat} (stk : List Value) (hd : decode cc pc = .ok (.invokevirtual idx, 3)) (hL : VL own idx ci y yb maxL yret as.length) {G : Option (Int32 × Hp)} {K : Int32 → Hp → Option α} (h : ckO F a ci (bnd2 G K) = some res) (hM : ∀ r F1, G = some (r, F1) → ∀ n, CT y yb maxL yret (rmd d) n F (.ref a :: as) (some (.int r)) F1) (hr : d + 1 ≤ rm.frames ∧ 8 + (maxL + 11) + 40 * d ≤ rm.locals) (hrc : kc ≤ rm.cells ∧ ks ≤ rm.slots) (hst : (st.map fun v => v.category).sum ≤ 8) (hnf : nofl as) (hstk : stk = as.reverse ++ .ref a :: st) (kk : ∀ r F1, K r F1 = some res → PW X kc ks F1 (pc + 3) lv (.int r :: st)) : PW X kc ks F pc lv stk := by
  obtain ⟨ho, h⟩ := ckO_spec h
  obtain ⟨r, F1, hG, h⟩ := bnd2_spec h
  exact pw_runV hX hd hL ho (hM r F1 hG) hr hrc hst hnf (fun _ _ => rfl) stk hstk (kk r F1 h)
theorem pw_VL (hX : Ok X cc own mL rm) {a ci : Nat} (stk : List Value) (hd : decode cc pc = .ok (.invokevirtual idx, 3)) (hL : VL own idx ci y yb maxL yret as.length) {G : Option (Int64 × Hp)} {K : Int64 → Hp → Option α} (h : ckO F a ci (bnd2 G K) = some res) (hM : ∀ r F1, G = some (r, F1) → ∀ n, CT y yb maxL yret (rmd d) n F (.ref a :: as) (some (.long r)) F1) (hr : d + 1 ≤ rm.frames ∧ 8 + (maxL + 11) + 40 * d ≤ rm.locals) (hrc : kc ≤ rm.cells ∧ ks ≤ rm.slots) (hst : (st.map fun v => v.category).sum ≤ 8) (hnf : nofl as) (hstk : stk = as.reverse ++ .ref a :: st) (kk : ∀ r F1, K r F1 = some res → PW X kc ks F1 (pc + 3) lv (.long r :: st)) : PW X kc ks F pc lv stk := by
  obtain ⟨ho, h⟩ := ckO_spec h
  obtain ⟨r, F1, hG, h⟩ := bnd2_spec h
  exact pw_runV hX hd hL ho (hM r F1 hG) hr hrc hst hnf (fun _ _ => rfl) stk hstk (kk r F1 h)
theorem pw_VR (hX : Ok X cc own mL rm) {a ci : Nat} (stk : List Value) (hd : decode cc pc = .ok (.invokevirtual idx, 3)) (hL : VL own idx ci y yb maxL yret as.length) {G : Option (Nat × Hp)} {K : Nat → Hp → Option α} (h : ckO F a ci (bnd2 G K) = some res) (hM : ∀ r F1, G = some (r, F1) → ∀ n, CT y yb maxL yret (rmd d) n F (.ref a :: as) (some (.ref r)) F1) (hr : d + 1 ≤ rm.frames ∧ 8 + (maxL + 11) + 40 * d ≤ rm.locals) (hrc : kc ≤ rm.cells ∧ ks ≤ rm.slots) (hst : (st.map fun v => v.category).sum ≤ 8) (hnf : nofl as) (hstk : stk = as.reverse ++ .ref a :: st) (kk : ∀ r F1, K r F1 = some res → PW X kc ks F1 (pc + 3) lv (.ref r :: st)) : PW X kc ks F pc lv stk := by
  obtain ⟨ho, h⟩ := ckO_spec h
  obtain ⟨r, F1, hG, h⟩ := bnd2_spec h
  exact pw_runV hX hd hL ho (hM r F1 hG) hr hrc hst hnf (fun _ _ => rfl) stk hstk (kk r F1 h)
theorem pw_V0 (hX : Ok X cc own mL rm) {a ci : Nat} (stk : List Value) (hd : decode cc pc = .ok (.invokevirtual idx, 3)) (hL : VL own idx ci y yb maxL yret as.length) {G : Option Hp} {K : Hp → Option α} (h : ckO F a ci (G.bind K) = some res) (hM : ∀ F1, G = some F1 → ∀ n, CT y yb maxL yret (rmd d) n F (.ref a :: as) none F1) (hr : d + 1 ≤ rm.frames ∧ 8 + (maxL + 11) + 40 * d ≤ rm.locals) (hrc : kc ≤ rm.cells ∧ ks ≤ rm.slots) (hst : (st.map fun v => v.category).sum ≤ 8) (hnf : nofl as) (hstk : stk = as.reverse ++ .ref a :: st) (kk : ∀ F1, K F1 = some res → PW X kc ks F1 (pc + 3) lv st) : PW X kc ks F pc lv stk := by
  obtain ⟨ho, h⟩ := ckO_spec h
  obtain ⟨F1, hG, h⟩ := Option.bind_eq_some_iff.mp h
  exact pw_runV hX hd hL ho (hM F1 hG) hr hrc hst hnf (fun _ _ => rfl) stk hstk (kk F1 h)
theorem pw_VQ (hX : Ok X cc own mL rm) {a ci : Nat} (stk : List Value) (hd : decode cc pc = .ok (.invokevirtual idx, 3)) (hL : VL own idx ci y yb maxL yret as.length) {G : Option (Option Nat × Hp)} {K : Option Nat → Hp → Option α} (h : ckO F a ci (bnd2 G K) = some res) (hM : ∀ r F1, G = some (r, F1) → ∀ n, CT y yb maxL yret (rmd d) n F (.ref a :: as) (some (va_rf r)) F1) (hr : d + 1 ≤ rm.frames ∧ 8 + (maxL + 11) + 40 * d ≤ rm.locals) (hrc : kc ≤ rm.cells ∧ ks ≤ rm.slots) (hst : (st.map fun v => v.category).sum ≤ 8) (hnf : nofl as) (hstk : stk = as.reverse ++ .ref a :: st) (k0 : ∀ F1, K none F1 = some res → PW X kc ks F1 (pc + 3) lv (.null :: st)) (k1 : ∀ q F1, K (some q) F1 = some res → PW X kc ks F1 (pc + 3) lv (.ref q :: st)) : PW X kc ks F pc lv stk := by
  obtain ⟨ho, h⟩ := ckO_spec h
  obtain ⟨r, F1, hG, h⟩ := bnd2_spec h
  cases r with
  | none => exact pw_runV hX hd hL ho (hM none F1 hG) hr hrc hst hnf (fun _ _ => rfl) stk hstk (k0 F1 h)
  | some q => exact pw_runV hX hd hL ho (hM (some q) F1 hG) hr hrc hst hnf (fun _ _ => rfl) stk hstk (k1 q F1 h)
theorem pw_SI (hX : Ok X cc own mL rm) (stk : List Value) (hd : decode cc pc = .ok (.invokestatic idx, 3)) (hL : SL own idx y yb maxL yret as.length) {G : Option (Int32 × Hp)} {K : Int32 → Hp → Option α} (h : bnd2 G K = some res) (hM : ∀ r F1, G = some (r, F1) → ∀ n, CT y yb maxL yret (rmd d) n F as (some (.int r)) F1) (hr : d + 1 ≤ rm.frames ∧ 8 + (maxL + 11) + 40 * d ≤ rm.locals) (hrc : kc ≤ rm.cells ∧ ks ≤ rm.slots) (hst : (st.map fun v => v.category).sum ≤ 8) (hnf : nofl as) (hstk : stk = as.reverse ++ st) (kk : ∀ r F1, K r F1 = some res → PW X kc ks F1 (pc + 3) lv (.int r :: st)) : PW X kc ks F pc lv stk := by
  obtain ⟨r, F1, hG, h⟩ := bnd2_spec h
  exact pw_runS hX hd hL (hM r F1 hG) hr hrc hst hnf (fun _ _ => rfl) stk hstk (kk r F1 h)
theorem pw_SL (hX : Ok X cc own mL rm) (stk : List Value) (hd : decode cc pc = .ok (.invokestatic idx, 3)) (hL : SL own idx y yb maxL yret as.length) {G : Option (Int64 × Hp)} {K : Int64 → Hp → Option α} (h : bnd2 G K = some res) (hM : ∀ r F1, G = some (r, F1) → ∀ n, CT y yb maxL yret (rmd d) n F as (some (.long r)) F1) (hr : d + 1 ≤ rm.frames ∧ 8 + (maxL + 11) + 40 * d ≤ rm.locals) (hrc : kc ≤ rm.cells ∧ ks ≤ rm.slots) (hst : (st.map fun v => v.category).sum ≤ 8) (hnf : nofl as) (hstk : stk = as.reverse ++ st) (kk : ∀ r F1, K r F1 = some res → PW X kc ks F1 (pc + 3) lv (.long r :: st)) : PW X kc ks F pc lv stk := by
  obtain ⟨r, F1, hG, h⟩ := bnd2_spec h
  exact pw_runS hX hd hL (hM r F1 hG) hr hrc hst hnf (fun _ _ => rfl) stk hstk (kk r F1 h)
theorem pw_SR (hX : Ok X cc own mL rm) (stk : List Value) (hd : decode cc pc = .ok (.invokestatic idx, 3)) (hL : SL own idx y yb maxL yret as.length) {G : Option (Nat × Hp)} {K : Nat → Hp → Option α} (h : bnd2 G K = some res) (hM : ∀ r F1, G = some (r, F1) → ∀ n, CT y yb maxL yret (rmd d) n F as (some (.ref r)) F1) (hr : d + 1 ≤ rm.frames ∧ 8 + (maxL + 11) + 40 * d ≤ rm.locals) (hrc : kc ≤ rm.cells ∧ ks ≤ rm.slots) (hst : (st.map fun v => v.category).sum ≤ 8) (hnf : nofl as) (hstk : stk = as.reverse ++ st) (kk : ∀ r F1, K r F1 = some res → PW X kc ks F1 (pc + 3) lv (.ref r :: st)) : PW X kc ks F pc lv stk := by
  obtain ⟨r, F1, hG, h⟩ := bnd2_spec h
  exact pw_runS hX hd hL (hM r F1 hG) hr hrc hst hnf (fun _ _ => rfl) stk hstk (kk r F1 h)
theorem pw_S0 (hX : Ok X cc own mL rm) (stk : List Value) (hd : decode cc pc = .ok (.invokestatic idx, 3)) (hL : SL own idx y yb maxL yret as.length) {G : Option Hp} {K : Hp → Option α} (h : G.bind K = some res) (hM : ∀ F1, G = some F1 → ∀ n, CT y yb maxL yret (rmd d) n F as none F1) (hr : d + 1 ≤ rm.frames ∧ 8 + (maxL + 11) + 40 * d ≤ rm.locals) (hrc : kc ≤ rm.cells ∧ ks ≤ rm.slots) (hst : (st.map fun v => v.category).sum ≤ 8) (hnf : nofl as) (hstk : stk = as.reverse ++ st) (kk : ∀ F1, K F1 = some res → PW X kc ks F1 (pc + 3) lv st) : PW X kc ks F pc lv stk := by
  obtain ⟨F1, hG, h⟩ := Option.bind_eq_some_iff.mp h
  exact pw_runS hX hd hL (hM F1 hG) hr hrc hst hnf (fun _ _ => rfl) stk hstk (kk F1 h)
theorem pw_NI (hX : Ok X cc own mL rm) (stk : List Value) (hd : decode cc pc = .ok (.invokestatic idx, 3)) (hL : NL own idx y yb maxL yret as.length) {G : Option (Int32 × Hp)} {K : Int32 → Hp → Option α} (h : bnd2 G K = some res) (hM : ∀ r F1, G = some (r, F1) → ∀ n, CT y yb maxL yret (rmd d) n F as (some (.int r)) F1) (hr : d + 1 ≤ rm.frames ∧ 8 + (maxL + 11) + 40 * d ≤ rm.locals) (hrc : kc ≤ rm.cells ∧ ks ≤ rm.slots) (hst : (st.map fun v => v.category).sum ≤ 8) (hnf : nofl as) (hstk : stk = as.reverse ++ st) (kk : ∀ r F1, K r F1 = some res → PW X kc ks F1 (pc + 3) lv (.int r :: st)) : PW X kc ks F pc lv stk := by
  obtain ⟨r, F1, hG, h⟩ := bnd2_spec h
  exact pw_runN hX hd hL (hM r F1 hG) hr hrc hst hnf (fun _ _ => rfl) stk hstk (kk r F1 h)
end CALLT
section RETS
variable {X : Cx} {cc : ByteArray} {own : String} {mL : Nat} {rm : Room} {kc ks : Nat} {F F' : Hp} {pc : Nat} {lv : List (Nat × Value)} {nm : Bool}
theorem pw_iret (hX : Ok X cc own mL rm) {x x' : Int32} (hT : Rt X (some .int) nm kc ks (some (.int x')) F') (hd : decode cc pc = .ok (.ireturn, 1)) (h : some (x, F) = some (x', F')) : PW X kc ks F pc lv [.int x] := by
  cases h
  obtain ⟨⟨p, l, e, R, s⟩, ⟨m, args, below, meth, c⟩, ⟨Q, D, cy⟩, ⟨b, n0, nL, sc⟩⟩ := X
  obtain ⟨hx, hb, hml, hown, hts, hK, hsz, hlk, hR, hN, hnL⟩ := hX
  obtain ⟨hr, hQ, -⟩ := hT
  intro hF H locs ls hP hS hl
  subst hQ
  exact W.iret hx hb hr (fun t ht hW => ⟨rfl, by rw [ht]; exact hP, hS.F ht, hF⟩) hS.2.2 hd
theorem pw_zretc (hX : Ok X cc own mL rm) {x x' : Int32} (hT : Rt X (some .boolean) nm kc ks (some (.int x')) F') (hd : decode cc pc = .ok (.ireturn, 1)) (hz : x = 0 ∨ x = 1) (h : some (x, F) = some (x', F')) : PW X kc ks F pc lv [.int x] := by
  cases h
  obtain ⟨⟨p, l, e, R, s⟩, ⟨m, args, below, meth, c⟩, ⟨Q, D, cy⟩, ⟨b, n0, nL, sc⟩⟩ := X
  obtain ⟨hx, hb, hml, hown, hts, hK, hsz, hlk, hR, hN, hnL⟩ := hX
  obtain ⟨hr, hQ, -⟩ := hT
  intro hF H locs ls hP hS hl
  subst hQ
  exact W.zret hx hb hr (by rcases hz with rfl | rfl <;> rfl) (fun t ht hW => ⟨rfl, by rw [ht]; exact hP, hS.F ht, hF⟩) hS.2.2 hd
theorem pw_zret (hX : Ok X cc own mL rm) {x x' : Int32} (hT : Rt X (some .boolean) nm kc ks (some (.int x')) F') (hd : decode cc pc = .ok (.ireturn, 1)) (h : (if x = 0 ∨ x = 1 then some (x, F) else none) = some (x', F')) : PW X kc ks F pc lv [.int x] := by
  by_cases hz : x = 0 ∨ x = 1
  · rw [if_pos hz] at h; exact pw_zretc hX hT hd hz h
  · rw [if_neg hz] at h; cases h
theorem pw_lret (hX : Ok X cc own mL rm) {x x' : Int64} (hT : Rt X (some .long) nm kc ks (some (.long x')) F') (hd : decode cc pc = .ok (.lreturn, 1)) (h : some (x, F) = some (x', F')) : PW X kc ks F pc lv [.long x] := by
  cases h
  obtain ⟨⟨p, l, e, R, s⟩, ⟨m, args, below, meth, c⟩, ⟨Q, D, cy⟩, ⟨b, n0, nL, sc⟩⟩ := X
  obtain ⟨hx, hb, hml, hown, hts, hK, hsz, hlk, hR, hN, hnL⟩ := hX
  obtain ⟨hr, hQ, -⟩ := hT
  intro hF H locs ls hP hS hl
  subst hQ
  exact W.lret hx hb hr (fun t ht hW => ⟨rfl, by rw [ht]; exact hP, hS.F ht, hF⟩) hS.2.2 hd
theorem pw_vret (hX : Ok X cc own mL rm) (hT : Rt X none nm kc ks none F') (hd : decode cc pc = .ok (.return_, 1)) (h : some F = some F') : PW X kc ks F pc lv [] := by
  cases h
  obtain ⟨⟨p, l, e, R, s⟩, ⟨m, args, below, meth, c⟩, ⟨Q, D, cy⟩, ⟨b, n0, nL, sc⟩⟩ := X
  obtain ⟨hx, hb, hml, hown, hts, hK, hsz, hlk, hR, hN, hnL⟩ := hX
  obtain ⟨hr, hQ, -⟩ := hT
  intro hF H locs ls hP hS hl
  subst hQ
  exact W.vret hx hb hr (fun t ht hW => ⟨rfl, by rw [ht]; exact hP, hS.F ht, hF⟩) hS.2.2 hd
theorem pw_aret (hX : Ok X cc own mL rm) {x x' : Nat} {o : String} (hT : Rt X (some (.object o)) nm kc ks (some (.ref x')) F') (hd : decode cc pc = .ok (.areturn, 1)) (h : some (x, F) = some (x', F')) : PW X kc ks F pc lv [.ref x] := by
  cases h
  obtain ⟨⟨p, l, e, R, s⟩, ⟨m, args, below, meth, c⟩, ⟨Q, D, cy⟩, ⟨b, n0, nL, sc⟩⟩ := X
  obtain ⟨hx, hb, hml, hown, hts, hK, hsz, hlk, hR, hN, hnL⟩ := hX
  obtain ⟨hr, hQ, -⟩ := hT
  intro hF H locs ls hP hS hl
  subst hQ
  exact W.aret hx hb hr (Or.inl ⟨o, rfl⟩) (Or.inr ⟨_, rfl⟩) (fun t ht hW => ⟨rfl, by rw [ht]; exact hP, hS.F ht, hF⟩) hS.2.2 hd
theorem pw_aretQ (hX : Ok X cc own mL rm) {x x' : Option Nat} {o : String} (hT : Rt X (some (.object o)) nm kc ks (some (va_rf x')) F') (hd : decode cc pc = .ok (.areturn, 1)) (v : Value) (hv : v = va_rf x) (h : some (x, F) = some (x', F')) : PW X kc ks F pc lv [v] := by
  cases h
  subst hv
  obtain ⟨⟨p, l, e, R, s⟩, ⟨m, args, below, meth, c⟩, ⟨Q, D, cy⟩, ⟨b, n0, nL, sc⟩⟩ := X
  obtain ⟨hx, hb, hml, hown, hts, hK, hsz, hlk, hR, hN, hnL⟩ := hX
  obtain ⟨hr, hQ, -⟩ := hT
  intro hF H locs ls hP hS hl
  subst hQ
  cases x with
  | none => exact W.aret hx hb hr (Or.inl ⟨o, rfl⟩) (Or.inl rfl) (fun t ht hW => ⟨rfl, by rw [ht]; exact hP, hS.F ht, hF⟩) hS.2.2 hd
  | some q => exact W.aret hx hb hr (Or.inl ⟨o, rfl⟩) (Or.inr ⟨_, rfl⟩) (fun t ht hW => ⟨rfl, by rw [ht]; exact hP, hS.F ht, hF⟩) hS.2.2 hd
end RETS
theorem lva_map (b : Nat) : ∀ (as : List Value) (i : Nat), lv_args i (as.map (mv b 0)) = (lv_args i as).map (fun q => (q.1, mv b 0 q.2))
  | [], i => rfl
  | v :: as, i => by
    simp only [List.map_cons, lv_args, mv_cat]
    rw [lva_map b as]
theorem lgs_len (b : Nat) : ∀ (as : List Value), (lg_sl (as.map (mv b 0))).length = (lg_sl as).length
  | [] => rfl
  | v :: as => by
    have := lgs_len b as
    simp only [lg_sl, List.map_cons, List.flatMap_cons, List.length_append, mv_cat] at this ⊢
    rw [this]
    split <;> rfl
/-- a contract out of the walk of its body -/
theorem ct_intro {y : MethodName} {cc : ByteArray} {own : String} {maxL : Nat} {ret : Option FieldType} {rm : Room} {nm : Bool} {n : Nat} {F : Hp} {as : List Value} {rv : Option Value} {F' : Hp} (hp : plainName y.cls = true) (ho : y.cls = own) (hnm : nm = true → y.name = "<init>") (hln : (lg_sl as).length ≤ maxL)
    (body : ∀ X : Cx, X.2.2.2.2.1 = n → Md X cc own maxL rm ret nm rv F' → PW X 0 0 F 0 (lv_args 0 as) []) : CT y cc maxL ret rm n F as rv F' := by
  intro l D cy b
  refine Met.ofW (cc := cc) (maxL := maxL) (ret := ret) hp rfl ?_
  intro p e s m args below meth c s₁ B hml hv
  obtain ⟨rfl, hsz, hP, hK, hN, hF⟩ := hv
  have hts0 := atoms_spec (ws := Cond.code y cc maxL ret :: lw_g) B.pre
  have hown : s.vm.findClass y.cls = some m.cls := findClass_of_methodNamed B.named
  have hl := lv_entry (as.map (mv b 0)) (n := maxL) (by rw [lgs_len]; exact hln)
  rw [lg_entry_eq]
  rw [lva_map] at hl
  exact body ((p, l, e, rm, s), (m, (as.map (mv b 0)).toArray, below, meth, c), (MQ below (gQc D cy b (n + rm.cells) rv F') (as.map (mv b 0)).toArray s rm.cells rm.slots (fun q => b ≤ q), D, cy), (b, n, maxL, 0)) rfl ⟨⟨B.exec, B.bytes, hml, ho ▸ hown, fun w hw => hts0 w (List.mem_cons_of_mem _ hw), hK, hsz, B.notSynchronized, rfl, hN, rfl⟩, B.returns, rfl, fun h => (name_of_methodNamed B.named B.method).1.trans (hnm h)⟩ hF s.heap [] _ hP va_S.rf hl
end
