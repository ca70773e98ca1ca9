/-! THE CLAIM OUT OF ONE WALK OF THE LAW'S BODY. Your part is whole_start (and what it stands on); all else here is the same for every law, but numbers. -/
def R_law : String := "DozeLinkLaw"
def lw_P (b : Addr) (xs : List Int32) (args : Array Value) (s : State) : Prop := args = #[.ref b] ∧ s.IntsAt b xs ∧ xs.length ≤ 2560 ∧ (Jvm.Cond.and given_1 narrow_1).before args s = true
def lw_Q (_ : Array Value) (s : State) (o : Outcome) (t : State) : Prop := o = .returned (some (.int 1)) ∧ Framed s o t [] 600000 7302250
def lw_Z (below : List Frame) (a : Array Value) (s : State) : State → Prop := fun t => ∃ o, t.status = .running ∧ Ended t below o ∧ lw_Q a s o t
/-- the law's own end, with 1 on the stack, nothing written that was there before, its room as the claim has it -/
theorem lw_ret {p : Program} {l : Launch} {e : Env} {s : State} {m : MethodId} {below : List Frame} {meth : Method} {c : Code} {b : Nat} (hx : p.tables.exec = Jvm.exec) (hb : c.code = code) (hr : meth.sig.returnType = ret) (hlocks : meth.locks = false) {pc : Nat} {H : Heap} {ls : Array Slot} (hdg : decode code pc = .ok (.ireturn, 1)) : W p l e room_1 s m #[Value.ref b] below meth c H [] 600000 7302250 (lw_Z below #[Value.ref b] s) (F0 m pc ls [.int 1]) := by
  intro T hT X
  obtain ⟨fs, hret, hrun, hended, hW, hframe⟩ := X.leave (v := some (.int 1)) (hlocks := hlocks) (fun h => by rw [hr] at h; cases h)
  have hmeth' : T.vm.method? m = some meth := X.method'
  refine ⟨T.setFrames fs, ?_, .returned (some (.int 1)), hrun, hended, rfl, ⟨_, rfl⟩, hW, hframe⟩
  jvm_step X.here [X.here.top, hx, hb, hdg, hmeth', hr, ret, narrow_b1]
  (try refine ⟨rfl, ?_⟩); (try refine ⟨rfl, ?_⟩)
  first | (intro acts; rw [hret _ acts rfl rfl rfl]) | rw [hret _ _ rfl rfl rfl]
  exact Steps.refl _
/-- what holds at the law's entry: the machine, the code, the tables' words (any of lw_tbl by 'hts w (by decide +kernel)'), the script of L ints xs at the cell b, what the Statement gives of the start (any of its parts by flat_of_before) -/
def lw_At (p : Program) (s : State) (m : MethodId) (meth : Method) (c : Code) (b L : Nat) (xs : Nat → Int32) : Prop :=
  p.tables.exec = Jvm.exec ∧ c.code = code ∧ meth.sig.returnType = ret ∧ c.maxLocals = 4 ∧ s.vm.findClass R_law = some m.cls ∧ (∀ w ∈ lw_tbl, w.before #[Value.ref b] s = true) ∧ va_X b L xs s s.heap ∧ b < s.heap.size ∧ meth.locks = false ∧ (Jvm.Cond.and given_1 narrow_1).before #[Value.ref b] s = true
/-! the law's own rows -/
def aS (L : Nat) (xs : Nat → Int32) (i : Int32) : Option Int32 := if i < 0 ∨ L ≤ i.toNatClampNeg then none else some (xs i.toNatClampNeg)
def LwX (X : Cx) (L : Nat) (xs : Nat → Int32) : Prop :=
  match X with
  | ((p, l, e, R, s), (m, args, below, meth, c), (Q, D, cy), (b, n0, nL, sc)) =>
    Q = lw_Z below #[Value.ref sc] s ∧ args = #[Value.ref sc] ∧ b = s.heap.size ∧ meth.sig.returnType = ret ∧ va_X sc L xs s s.heap ∧ sc < s.heap.size
section LAWR
variable {X : Cx} {kc ks : Nat} {F : Hp} {pc : Nat} {lv : List (Nat × Value)} {st : List Value} {L : Nat} {xs : Nat → Int32} {α : Type} {res : α}
theorem pw_sld (hX : Ok X code RL 4 room_1) (hL : LwX X L xs) {i : Int32} {z : UInt32} {K : Int32 → Option α} (hd : decode code pc = .ok (.iaload, 1)) (h : (aS L xs i).bind K = some res) (kk : ∀ x, K x = some res → PW X kc ks F (pc + 1) lv (.int x :: st)) : PW X kc ks F pc lv (.int i :: .float z :: st) := by
  obtain ⟨x, hx0, h⟩ := Option.bind_eq_some_iff.mp h
  unfold aS at hx0
  split at hx0
  · cases hx0
  · next hin =>
    cases hx0
    obtain ⟨⟨p, l, e, R, s⟩, ⟨m, args, below, meth, c⟩, ⟨Q, D, cy⟩, ⟨b, n0, nL, sc⟩⟩ := X
    obtain ⟨hx, hb, hml, hown, hts, hK, hsz, hlk, hR, hN, hnL⟩ := hX
    obtain ⟨hQ, hargs, hbs, hr, hXs, hsc⟩ := hL
    intro hF H locs ls hP hS hl
    exact va_sld hx hb hXs hsc (by show ¬ b ≤ sc; omega) hS hin hd (kk _ h hF H locs ls hP hS hl)
theorem pw_slen (hX : Ok X code RL 4 room_1) (hL : LwX X L xs) {z : UInt32} (hd : decode code pc = .ok (.arraylength, 1)) (kk : PW X kc ks F (pc + 1) lv (.int (Int32.ofNat L) :: st)) : PW X kc ks F pc lv (.float z :: st) := by
  obtain ⟨⟨p, l, e, R, s⟩, ⟨m, args, below, meth, c⟩, ⟨Q, D, cy⟩, ⟨b, n0, nL, sc⟩⟩ := X
  obtain ⟨hx, hb, hml, hown, hts, hK, hsz, hlk, hR, hN, hnL⟩ := hX
  obtain ⟨hQ, hargs, hbs, hr, hXs, hsc⟩ := hL
  intro hF H locs ls hP hS hl
  exact va_slen hx hb hXs hsc (by show ¬ b ≤ sc; omega) hS hd (kk hF H locs ls hP hS hl)
theorem pw_lawret (hX : Ok X code RL 4 room_1) (hL : LwX X L xs) (hd : decode code pc = .ok (.ireturn, 1)) (hk : kc ≤ 600000 ∧ ks ≤ 7302250 := by decide) : PW X kc ks F pc lv [.int 1] := by
  obtain ⟨⟨p, l, e, R, s⟩, ⟨m, args, below, meth, c⟩, ⟨Q, D, cy⟩, ⟨b, n0, nL, sc⟩⟩ := X
  obtain ⟨hx, hb, hml, hown, hts, hK, hsz, hlk, hR, hN, hnL⟩ := hX
  obtain ⟨hQ, hargs, hbs, hr, hXs, hsc⟩ := hL
  intro hF H locs ls hP hS hl
  subst hQ; subst hargs; subst hR
  refine va_forget (fun q hq => by have := hS.2.2 q hq; have h2 : b ≤ q.base := this; omega) ?_
  refine W.widen hk.1 hk.2 ?_
  exact lw_ret hx hb hr hlk hd
end LAWR
