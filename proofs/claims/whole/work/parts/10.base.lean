/-! The ghost heap: positions 0, 1, 2 .. in the order of their making; position k lies at the address b + k. -/
/-- the tables' words that every callee may use -/
def lw_g : List Cond := lw_tbl.filter goodWord
theorem mg {w : Cond} (i : Nat) (h : lw_tbl[i]? = some w) (hg : goodWord w = true) : w ∈ lw_g := List.mem_filter.mpr ⟨List.mem_of_getElem? h, hg⟩
abbrev Hp : Type := Nat → va_E
/-- a position that holds nothing yet -/
def dd : va_E := .inl (7, 0, .inl (fun _ => 0))
/-- a value with positions, as the machine has it (a float stands for the law's script) -/
def mv (b sc : Nat) : Value → Value
  | .ref k => .ref (b + k)
  | .float _ => .ref sc
  | v => v
def mA (b : Nat) (a : vp_A) : vp_A := match a with
  | (n, .inr (.inr (.inr (.inr f)))) => (n, .inr (.inr (.inr (.inr (fun i => (f i).map (fun q => b + q))))))
  | a => a
def mE (cy : Nat → ClassId) (b : Nat) (e : va_E) : va_E := match e with
  | .inl (k, a) => .inl (cy k, mA b a)
  | .inr (c, fs) => .inr (c, fs.map (mv b 0))
def wl (cy : Nat → ClassId) (b n : Nat) (F : Hp) : va_W := (List.range n).map (fun k => (b + k, mE cy b (F k)))
theorem wl_get {cy : Nat → ClassId} {b n k : Nat} {F : Hp} (h : k < n) : (wl cy b n F)[k]? = some (b + k, mE cy b (F k)) := by
  simp [wl, h]
theorem wl_at {cy : Nat → ClassId} {b n k : Nat} {F : Hp} {e : va_E} (h : k < n) (he : F k = e) : (wl cy b n F)[k]? = some (b + k, mE cy b e) := by
  rw [wl_get h, he]
theorem wl_set {cy : Nat → ClassId} {b n k : Nat} {F : Hp} {e : va_E} : (wl cy b n F).set k (b + k, mE cy b e) = wl cy b n (va_up F k e) := by
  apply List.ext_getElem?
  intro j
  by_cases hj : j = k
  · subst hj
    by_cases hn : j < n
    · rw [List.getElem?_set_self (by simp [wl]; exact hn), wl_get hn, va_up_self]
    · rw [List.getElem?_eq_none (by simp [wl]; omega), List.getElem?_eq_none (by simp [wl]; omega)]
  · rw [List.getElem?_set_ne (Ne.symm hj)]
    by_cases hn : j < n
    · rw [wl_get hn, wl_get hn, va_up_ne _ _ hj]
    · rw [List.getElem?_eq_none (by simp [wl]; omega), List.getElem?_eq_none (by simp [wl]; omega)]
theorem wl_push {cy : Nat → ClassId} {b n : Nat} {F : Hp} {e : va_E} : wl cy b n F ++ [(b + n, mE cy b e)] = wl cy b (n + 1) (va_up F n e) := by
  unfold wl
  rw [List.range_succ, List.map_append]
  congr 1
  · apply List.map_congr_left
    intro k hk
    rw [va_up_ne _ _ (Nat.ne_of_lt (List.mem_range.mp hk))]
  · simp [va_up_self]
theorem wl_len {cy : Nat → ClassId} {b n : Nat} {F : Hp} : (wl cy b n F).length = n := by simp [wl]
theorem wl_D {cy : Nat → ClassId} {b n : Nat} {F : Hp} : va_D (fun q : Nat => b ≤ q) (wl cy b n F) := by
  have key : ∀ (k : Nat) (q : Nat × va_E), (wl cy b n F)[k]? = some q → q.1 = b + k := by
    intro k q h
    have hk : k < n := by
      have := (List.getElem?_eq_some_iff.mp h).1
      rwa [wl_len] at this
    rw [wl_get hk] at h
    cases h
    rfl
  refine ⟨fun i j p q hi hj hpq => ?_, fun k q h => ?_⟩
  · rw [key i p hi, key j q hj] at hpq
    omega
  · rw [key k q h]
    show b ≤ b + k
    omega
/-- the array kinds: 0 int, 1 boolean, 2 Doze -/
abbrev tyL (cy : Nat → ClassId) : List (ClassId × FieldType) := [(cy 0, .int), (cy 1, .boolean), (cy 2, .object RX1)]
/-- links to private members of a nest mate -/
def NW (U : State) : Prop := va_Nw (.methodLinkNest RX6 27 yX7_isFigure RX7) U ∧ va_Nw (.methodLinkNest RX1 127 yX7_isEnd RX7) U ∧ va_Nw (.methodLinkNest RX1 136 yX7_isWithin RX7) U ∧ va_Nw (.methodLinkNest RX1 144 yX7_isFigure RX7) U ∧ va_AO RX1 U
theorem NW.warm {s U : State} (hW : s.WarmedH U.vm) (h : NW s) : NW U := ⟨va_Nw.warmM hW h.1, va_Nw.warmM hW h.2.1, va_Nw.warmM hW h.2.2.1, va_Nw.warmM hW h.2.2.2.1, va_AO.moved hW.alike h.2.2.2.2⟩
theorem NW.same {s U : State} (hv : s.vm = U.vm) (h : NW s) : NW U := ⟨va_Nw.same rfl hv h.1, va_Nw.same rfl hv h.2.1, va_Nw.same rfl hv h.2.2.1, va_Nw.same rfl hv h.2.2.2.1, va_AO.moved (hv ▸ Vm.Alike.refl s.vm) h.2.2.2.2⟩
/-! contracts over the ghost heap -/
def gPc (D : va_G) (cy : Nat → ClassId) (b n : Nat) (F : Hp) (as : List Value) : Array Value → State → Prop := va_Pc (as.map (mv b 0)) (fun U => U.heap.size = b + n ∧ va_P D vwCl (wl cy b n F) U.heap ∧ va_K D vwCl (tyL cy) U ∧ NW U ∧ ∀ k, n ≤ k → F k = dd)
def gQc (D : va_G) (cy : Nat → ClassId) (b n : Nat) (rv : Option Value) (F : Hp) : Array Value → State → Outcome → State → Prop := fun _ st oc t => oc = .returned (rv.map (mv b 0)) ∧ va_P D vwCl (wl cy b n F) t.heap ∧ va_F (fun q : Nat => b ≤ q) st t ∧ ∀ k, n ≤ k → F k = dd
def CT (y : MethodName) (cc : ByteArray) (maxL : Nat) (ret : Option FieldType) (rm : Room) (n : Nat) (F : Hp) (as : List Value) (rv : Option Value) (F' : Hp) : Prop :=
  ∀ (l : Launch) (D : va_G) (cy : Nat → ClassId) (b : Nat), Met l y (Cond.code y cc maxL ret :: lw_g) rm (gPc D cy b n F as) (gQc D cy b (n + rm.cells) rv F') rm.cells rm.slots (fun q => b ≤ q)
/-- an activation -/
def Cx : Type := (Program × Launch × Env × Room × State) × (MethodId × Array Value × List Frame × Method × Code) × ((State → Prop) × va_G × (Nat → ClassId)) × (Nat × Nat × Nat × Nat)
def PW (X : Cx) (kc ks : Nat) (F : Hp) (pc : Nat) (lv : List (Nat × Value)) (st : List Value) : Prop :=
  match X with
  | ((p, l, e, R, s), (m, args, below, meth, c), (Q, D, cy), (b, n0, nL, sc)) =>
    (∀ k, n0 + kc ≤ k → F k = dd) → ∀ (H : Heap) (locs : List Loc) (ls : Array Slot), va_P D vwCl (wl cy b (n0 + kc) F) H → va_S (fun q : Nat => b ≤ q) s.heap H locs → lv_has ls nL (lv.map (fun q => (q.1, mv b sc q.2))) →
      W p l e R s m args below meth c H locs kc ks Q (F0 m pc ls (st.map (mv b sc)))
/-- what is known in an activation: its code, its owner, its room -/
def Ok (X : Cx) (cc : ByteArray) (own : String) (maxL : Nat) (rm : Room) : Prop :=
  match X with
  | ((p, l, e, R, s), (m, args, below, meth, c), (Q, D, cy), (b, n0, nL, sc)) =>
    p.tables.exec = Jvm.exec ∧ c.code = cc ∧ c.maxLocals = nL ∧ s.vm.findClass own = some m.cls ∧ (∀ w ∈ lw_g, w.before args s = true) ∧ va_K D vwCl (tyL cy) s ∧ s.heap.size = b + n0 ∧ meth.locks = false ∧ R = rm ∧ NW s ∧ nL = maxL
/-- what it must come to -/
def Rt (X : Cx) (ret : Option FieldType) (nm : Bool) (kc ks : Nat) (rv : Option Value) (F' : Hp) : Prop :=
  match X with
  | ((p, l, e, R, s), (m, args, below, meth, c), (Q, D, cy), (b, n0, nL, sc)) =>
    meth.sig.returnType = ret ∧ Q = MQ below (gQc D cy b (n0 + kc) rv F') args s kc ks (fun q => b ≤ q) ∧ (nm = true → meth.name = "<init>")
def Md (X : Cx) (cc : ByteArray) (own : String) (maxL : Nat) (rm : Room) (ret : Option FieldType) (nm : Bool) (rv : Option Value) (F' : Hp) : Prop := Ok X cc own maxL rm ∧ Rt X ret nm rm.cells rm.slots rv F'
theorem mv_cat (b sc : Nat) (v : Value) : (mv b sc v).category = v.category := by cases v <;> rfl
theorem mv_cats (b sc : Nat) (st : List Value) : ((st.map (mv b sc)).map fun v => v.category).sum = (st.map fun v => v.category).sum := by
  rw [List.map_map]
  congr 1
  apply List.map_congr_left
  intro v _
  exact mv_cat b sc v
theorem mv_filter (b sc : Nat) (lv : List (Nat × Value)) (f g : Nat → Bool) : (lv.map (fun q => (q.1, mv b sc q.2))).filter (fun q => f q.1 && !(g q.1 && q.2.category == 2)) = (lv.filter (fun q => f q.1 && !(g q.1 && q.2.category == 2))).map (fun q => (q.1, mv b sc q.2)) := by
  rw [List.filter_map]
  congr 1
  apply List.filter_congr
  intro q _
  simp [Function.comp, mv_cat]
theorem gPc_blind (D : va_G) (cy : Nat → ClassId) (b n : Nat) (F : Hp) (as : List Value) : FrameBlind (gPc D cy b n F as) := by
  intro a U g mk h
  obtain ⟨h1, h2, h3, h4, h5, h6⟩ := h
  exact ⟨h1, h2, h3, va_K.moved (u := U) (U := U.calling g mk a) (Vm.Alike.refl U.vm) h4, NW.same (s := U) rfl h5, h6⟩
