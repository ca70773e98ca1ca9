/-! calls, returns, contracts -/
theorem tbl_in {y : MethodName} {cc : ByteArray} {maxL : Nat} {ret : Option FieldType} (h : Cond.code y cc maxL ret ∈ lw_g) : GoodIn lw_g (Cond.code y cc maxL ret :: lw_g) := fun w hw => by
  have hm : w ∈ lw_g := (List.mem_cons.mp hw).elim (fun e => e ▸ h) id
  exact ⟨hm, good_of_word (List.mem_filter.mp hm).2⟩
theorem W_sz {p : Program} {l : Launch} {e : Env} {R : Room} {s : State} {m : MethodId} {args : Array Value} {below : List Frame} {meth : Method} {c : Code} {H : Heap} {locs : List Loc} {cells slots : Nat} {Q : State → Prop} {g : JFrame} (k : H.size ≤ s.heap.size + cells → W p l e R s m args below meth c H locs cells slots Q g) : W p l e R s m args below meth c H locs cells slots Q g := fun T hT X => k (by
  have h := X.same.2.2.1
  rw [← hT]
  exact h) T hT X
theorem W_call {p : Program} {l : Launch} {e : Env} {R : Room} {s : State} {m : MethodId} {args : Array Value} {below : List Frame} {meth : Method} {c : Code} {H : Heap} {locs : List Loc} {cells slots mc ms : Nat} {Q : State → Prop} {pc : Nat} {ls : Array Slot} {st0 rest : List Value} {D : va_G} {cy : Nat → ClassId} {b n : Nat} {rv : Option Value} {F1 : Hp} {a : Array Value}
    (hr : va_Run p l e R s m args below meth c H locs cells slots mc ms (F0 m pc ls st0) rest (gQc D cy b n rv F1 a) (fun q => b ≤ q)) (hS : va_S (fun q : Nat => b ≤ q) s.heap H locs)
    (kk : ∀ (H1 : Heap) (locs1 : List Loc), va_P D vwCl (wl cy b n F1) H1 → va_S (fun q : Nat => b ≤ q) s.heap H1 locs1 → (∀ k, n ≤ k → F1 k = dd) → W p l e R s m args below meth c H1 locs1 (cells + mc) (slots + ms) Q (F0 m (pc + 3) ls ((rv.map (mv b 0)).toList ++ rest))) : W p l e R s m args below meth c H locs cells slots Q (F0 m pc ls st0) := by
  intro T hT X
  obtain ⟨v, st₀, t, T', L, h0, X', hL, e1, e2, ⟨hv, hP1, hF1, hdm⟩, st⟩ := hr T hT X
  cases hv
  obtain ⟨hz, hk⟩ := hF1
  rw [h0] at hz hk
  obtain ⟨t2, a1, b1⟩ := kk T'.heap (locs ++ L) (by rw [e1]; exact hP1) ⟨Nat.le_trans hS.1 (by rw [e1]; exact hz), fun q h1 h2 => by rw [e1, hk q (Nat.lt_of_lt_of_le h1 hS.1) h2]; exact hS.2.1 q h1 h2, fun q hq => (List.mem_append.mp hq).elim (hS.2.2 q) (hL q)⟩ hdm T' rfl X'
  exact ⟨t2, st t2 a1, b1⟩
theorem wl_size {D : va_G} {cy : Nat → ClassId} {b n : Nat} {F : Hp} {H : Heap} (hP : va_P D vwCl (wl cy b n F) H) (hb : b ≤ H.size) : b + n ≤ H.size := by
  cases n with
  | zero => exact hb
  | succ n =>
    have := (hP n _ (wl_get (Nat.lt_succ_self n))).lt
    have e : (b + n, mE cy b (F n)).1 = b + n := rfl
    omega
/-- a link to a method, its code, its parameters -/
def ML (own : String) (idx : Nat) (y : MethodName) (yb : ByteArray) (maxL : Nat) (ret : Option FieldType) (n : Nat) : Prop := Cond.methodLink own idx y ∈ lw_g ∧ Cond.code y yb maxL ret ∈ lw_g ∧ Cond.initialized y.cls ∈ lw_g ∧ y.cls ≠ "java/lang/invoke/MethodHandle" ∧ y.cls ≠ "java/lang/invoke/VarHandle" ∧ (parseMethodDescriptor y.desc).map (fun d => d.parameters.length) = some n
def VL (own : String) (idx ci : Nat) (y : MethodName) (yb : ByteArray) (maxL : Nat) (ret : Option FieldType) (n : Nat) : Prop := ML own idx y yb maxL ret n ∧ Cond.instanceMethod y ∈ lw_g ∧ Cond.selects y.cls y y ∈ lw_g ∧ ∃ q : vw_C, vwCl[ci]? = some q ∧ q.1 = y.cls
def SL (own : String) (idx : Nat) (y : MethodName) (yb : ByteArray) (maxL : Nat) (ret : Option FieldType) (n : Nat) : Prop := ML own idx y yb maxL ret n ∧ Cond.static y ∈ lw_g
def NL (own : String) (idx : Nat) (y : MethodName) (yb : ByteArray) (maxL : Nat) (ret : Option FieldType) (n : Nat) : Prop := (∃ host : String, ∀ s : State, NW s → va_Nw (.methodLinkNest own idx y host) s) ∧ Cond.code y yb maxL ret ∈ lw_g ∧ Cond.initialized y.cls ∈ lw_g ∧ (y.cls ≠ "java/lang/invoke/MethodHandle" ∧ y.cls ≠ "java/lang/invoke/VarHandle" ∧ (parseMethodDescriptor y.desc).map (fun d => d.parameters.length) = some n) ∧ Cond.static y ∈ lw_g
def nofl (vs : List Value) : Prop := ∀ b sc, vs.map (mv b sc) = vs.map (mv b 0)
def rmd (d : Nat) : Room := { frames := d, cells := 0, slots := 0, locals := 40 * d }
def ckO {α : Type} (F : Hp) (a ci : Nat) (A : Option α) : Option α := match isO F a ci with
  | true => A
  | false => none
def bnd2 {α β γ : Type} (o : Option (α × β)) (K : α → β → Option γ) : Option γ := match o with
  | some (a, b) => K a b
  | none => none
theorem ckO_spec {α : Type} {F : Hp} {a ci : Nat} {A : Option α} {res : α} (h : ckO F a ci A = some res) : isO F a ci = true ∧ A = some res := by
  unfold ckO at h
  split at h
  · next e => exact ⟨e, h⟩
  · cases h
theorem bnd2_spec {α β γ : Type} {o : Option (α × β)} {K : α → β → Option γ} {res : γ} (h : bnd2 o K = some res) : ∃ a b, o = some (a, b) ∧ K a b = some res := by
  unfold bnd2 at h
  split at h
  · next a b => exact ⟨a, b, rfl, h⟩
  · cases h
section CALLS
variable {X : Cx} {cc : ByteArray} {own : String} {mL : Nat} {rm : Room} {kc ks : Nat} {F F1 : Hp} {pc : Nat} {lv : List (Nat × Value)} {st : List Value} {α : Type} {res : α} {y : MethodName} {yb : ByteArray} {maxL : Nat} {yret : Option FieldType} {rmc : Room} {as : List Value} {rv : Option Value} {idx : Nat}
theorem pw_runV (hX : Ok X cc own mL rm) {a ci : Nat} (hd : decode cc pc = .ok (.invokevirtual idx, 3)) (hL : VL own idx ci y yb maxL yret as.length) (ho : isO F a ci = true) (hM : ∀ n, CT y yb maxL yret rmc n F (.ref a :: as) rv F1) (hr : rmc.frames + 1 ≤ rm.frames ∧ 8 + (maxL + 11) + rmc.locals ≤ rm.locals) (hrc : kc + rmc.cells ≤ rm.cells ∧ ks + rmc.slots ≤ rm.slots) (hst : (st.map fun v => v.category).sum ≤ 8) (hnf : nofl as) (hrf : nofl rv.toList) (stk : List Value) (hstk : stk = as.reverse ++ .ref a :: st)
    (kk : PW X (kc + rmc.cells) (ks + rmc.slots) F1 (pc + 3) lv (rv.toList ++ st)) : PW X kc ks F pc lv stk := by
  obtain ⟨⟨p, l, e, R, s⟩, ⟨m, args, below, meth, c⟩, ⟨Q, D, cy⟩, ⟨b, n0, nL, sc⟩⟩ := X
  obtain ⟨hx, hb, hml, hown, hts, hK, hsz, hlk, rfl, hN, hnL⟩ := hX
  intro hF H locs ls hP hS hl
  refine W_sz (fun hH => ?_)
  obtain ⟨⟨h1, h2, h3, h4, h5, h6⟩, h7, h8, q, hq, hqc⟩ := hL
  obtain ⟨fs, hFa⟩ := isO_spec ho
  have hsize : H.size = b + (n0 + kc) := by
    have := wl_size hP (by have := hS.1; omega)
    omega
  subst hstk
  refine W_call (mc := rmc.cells) (ms := rmc.slots) (rest := st.map (mv b sc)) (n := n0 + kc + rmc.cells) (rv := rv) (F1 := F1) (D := D) (cy := cy) (a := (Value.ref (b + a) :: as.map (mv b sc)).toArray) (va_runV (C := y.cls) (b := b + a) (As := as.map (mv b sc)) ⟨hx, hb, hml, hown, hts⟩ (hM (n0 + kc) l D cy b) ⟨callB_of (n := as.length) hts (tbl_in h2) rfl rfl rfl (hts _ h3) (hts _ h1) ⟨h4, h5, h6⟩ hr, hts _ h7, hts _ h8⟩ ⟨gPc_blind D cy b (n0 + kc) F _, ?_, fun U hU hW => ⟨?_, by rw [hU]; exact hsize, by rw [hU]; exact hP, va_K.moved hW.alike hK, hN.warm hW, hF⟩⟩ rfl (by rw [List.length_map]) (hl.1.trans rfl) ?_ (lv_room (by rw [mv_cats]; exact hst)) hd hrc) hS (fun H1 locs1 hP1 hS1 hd1 => ?_)
  · have := va_recv (a := b + a) (q0 := a) (ci := ci) (fs := fs.map (mv b 0)) hK hP hq (wl_at (dom_r hF hFa) hFa)
    rw [hqc] at this
    exact this
  · rw [List.map_cons, hnf b sc]; rfl
  · simp [List.map_append, List.map_reverse, mv]
  · have := kk (by rw [← Nat.add_assoc]; exact hd1) H1 locs1 ls (by rw [← Nat.add_assoc]; exact hP1) hS1 hl
    rw [List.map_append, hrf b sc] at this
    cases rv <;> exact this
theorem pw_runS (hX : Ok X cc own mL rm) (hd : decode cc pc = .ok (.invokestatic idx, 3)) (hL : SL own idx y yb maxL yret as.length) (hM : ∀ n, CT y yb maxL yret rmc n F as rv F1) (hr : rmc.frames + 1 ≤ rm.frames ∧ 8 + (maxL + 11) + rmc.locals ≤ rm.locals) (hrc : kc + rmc.cells ≤ rm.cells ∧ ks + rmc.slots ≤ rm.slots) (hst : (st.map fun v => v.category).sum ≤ 8) (hnf : nofl as) (hrf : nofl rv.toList) (stk : List Value) (hstk : stk = as.reverse ++ st)
    (kk : PW X (kc + rmc.cells) (ks + rmc.slots) F1 (pc + 3) lv (rv.toList ++ st)) : PW X kc ks F pc lv stk := by
  obtain ⟨⟨p, l, e, R, s⟩, ⟨m, args, below, meth, c⟩, ⟨Q, D, cy⟩, ⟨b, n0, nL, sc⟩⟩ := X
  obtain ⟨hx, hb, hml, hown, hts, hK, hsz, hlk, rfl, hN, hnL⟩ := hX
  intro hF H locs ls hP hS hl
  refine W_sz (fun hH => ?_)
  obtain ⟨⟨h1, h2, h3, h4, h5, h6⟩, h7⟩ := hL
  have hsize : H.size = b + (n0 + kc) := by
    have := wl_size hP (by have := hS.1; omega)
    omega
  subst hstk
  refine W_call (mc := rmc.cells) (ms := rmc.slots) (rest := st.map (mv b sc)) (n := n0 + kc + rmc.cells) (rv := rv) (F1 := F1) (D := D) (cy := cy) (a := (as.map (mv b sc)).toArray) (va_runS (As := as.map (mv b sc)) ⟨hx, hb, hml, hown, hts⟩ (hM (n0 + kc) l D cy b) ⟨callB_of (n := as.length) hts (tbl_in h2) rfl rfl rfl (hts _ h3) (hts _ h1) ⟨h4, h5, h6⟩ hr, hts _ h7⟩ ⟨gPc_blind D cy b (n0 + kc) F _, fun U hU hW => ⟨?_, by rw [hU]; exact hsize, by rw [hU]; exact hP, va_K.moved hW.alike hK, hN.warm hW, hF⟩⟩ rfl (by rw [List.length_map]) (hl.1.trans rfl) ?_ (lv_room (by rw [mv_cats]; exact hst)) hd hrc) hS (fun H1 locs1 hP1 hS1 hd1 => ?_)
  · rw [hnf b sc]
  · simp [List.map_append, List.map_reverse]
  · have := kk (by rw [← Nat.add_assoc]; exact hd1) H1 locs1 ls (by rw [← Nat.add_assoc]; exact hP1) hS1 hl
    rw [List.map_append, hrf b sc] at this
    cases rv <;> exact this
theorem pw_runN (hX : Ok X cc own mL rm) (hd : decode cc pc = .ok (.invokestatic idx, 3)) (hL : NL own idx y yb maxL yret as.length) (hM : ∀ n, CT y yb maxL yret rmc n F as rv F1) (hr : rmc.frames + 1 ≤ rm.frames ∧ 8 + (maxL + 11) + rmc.locals ≤ rm.locals) (hrc : kc + rmc.cells ≤ rm.cells ∧ ks + rmc.slots ≤ rm.slots) (hst : (st.map fun v => v.category).sum ≤ 8) (hnf : nofl as) (hrf : nofl rv.toList) (stk : List Value) (hstk : stk = as.reverse ++ st)
    (kk : PW X (kc + rmc.cells) (ks + rmc.slots) F1 (pc + 3) lv (rv.toList ++ st)) : PW X kc ks F pc lv stk := by
  obtain ⟨⟨p, l, e, R, s⟩, ⟨m, args, below, meth, c⟩, ⟨Q, D, cy⟩, ⟨b, n0, nL, sc⟩⟩ := X
  obtain ⟨hx, hb, hml, hown, hts, hK, hsz, hlk, rfl, hN, hnL⟩ := hX
  intro hF H locs ls hP hS hl
  refine W_sz (fun hH => ?_)
  obtain ⟨⟨host, h1⟩, h2, h3, ⟨h4, h5, h6⟩, h7⟩ := hL
  have hsize : H.size = b + (n0 + kc) := by
    have := wl_size hP (by have := hS.1; omega)
    omega
  subst hstk
  refine W_call (mc := rmc.cells) (ms := rmc.slots) (rest := st.map (mv b sc)) (n := n0 + kc + rmc.cells) (rv := rv) (F1 := F1) (D := D) (cy := cy) (a := (as.map (mv b sc)).toArray) (va_runSN (host := host) (As := as.map (mv b sc)) ⟨hx, hb, hml, hown, hts⟩ (hM (n0 + kc) l D cy b) ⟨va_cnB as.length hts (tbl_in h2) rfl rfl rfl (h1 s hN) (hts _ h3) ⟨h4, h5, h6⟩ hr, hts _ h7, trivial⟩ ⟨gPc_blind D cy b (n0 + kc) F _, fun U hU hW => ⟨?_, by rw [hU]; exact hsize, by rw [hU]; exact hP, va_K.moved hW.alike hK, hN.warm hW, hF⟩⟩ rfl (by rw [List.length_map]) (hl.1.trans rfl) ?_ (lv_room (by rw [mv_cats]; exact hst)) hd hrc) hS (fun H1 locs1 hP1 hS1 hd1 => ?_)
  · rw [hnf b sc]
  · simp [List.map_append, List.map_reverse]
  · have := kk (by rw [← Nat.add_assoc]; exact hd1) H1 locs1 ls (by rw [← Nat.add_assoc]; exact hP1) hS1 hl
    rw [List.map_append, hrf b sc] at this
    cases rv <;> exact this
end CALLS
section CALLT
variable {X : Cx} {cc : ByteArray} {own : String} {mL : Nat} {rm : Room} {kc ks : Nat} {F : Hp} {pc : Nat} {lv : List (Nat × Value)} {st : List Value} {α : Type} {res : α} {y : MethodName} {yb : ByteArray} {maxL d : Nat} {yret : Option FieldType} {as : List Value} {idx : Nat}
theorem pw_VI (hX : Ok X cc own mL rm) {a ci : Nat} (stk : List Value) (hd : decode cc pc = .ok (.invokevirtual idx, 3)) (hL : VL own idx ci y yb maxL yret as.length) {G : Option (Int32 × Hp)} {K : Int32 → Hp → Option α} (h : ckO F a ci (bnd2 G K) = some res) (hM : ∀ r F1, G = some (r, F1) → ∀ n, CT y yb maxL yret (rmd d) n F (.ref a :: as) (some (.int r)) F1) (hr : d + 1 ≤ rm.frames ∧ 8 + (maxL + 11) + 40 * d ≤ rm.locals) (hrc : kc ≤ rm.cells ∧ ks ≤ rm.slots) (hst : (st.map fun v => v.category).sum ≤ 8) (hnf : nofl as) (hstk : stk = as.reverse ++ .ref a :: st) (kk : ∀ r F1, K r F1 = some res → PW X kc ks F1 (pc + 3) lv (.int r :: st)) : PW X kc ks F pc lv stk := by
  obtain ⟨ho, h⟩ := ckO_spec h
  obtain ⟨r, F1, hG, h⟩ := bnd2_spec h
  exact pw_runV hX hd hL ho (hM r F1 hG) hr hrc hst hnf (fun _ _ => rfl) stk hstk (kk r F1 h)
theorem pw_VL (hX : Ok X cc own mL rm) {a ci : Nat} (stk : List Value) (hd : decode cc pc = .ok (.invokevirtual idx, 3)) (hL : VL own idx ci y yb maxL yret as.length) {G : Option (Int64 × Hp)} {K : Int64 → Hp → Option α} (h : ckO F a ci (bnd2 G K) = some res) (hM : ∀ r F1, G = some (r, F1) → ∀ n, CT y yb maxL yret (rmd d) n F (.ref a :: as) (some (.long r)) F1) (hr : d + 1 ≤ rm.frames ∧ 8 + (maxL + 11) + 40 * d ≤ rm.locals) (hrc : kc ≤ rm.cells ∧ ks ≤ rm.slots) (hst : (st.map fun v => v.category).sum ≤ 8) (hnf : nofl as) (hstk : stk = as.reverse ++ .ref a :: st) (kk : ∀ r F1, K r F1 = some res → PW X kc ks F1 (pc + 3) lv (.long r :: st)) : PW X kc ks F pc lv stk := by
  obtain ⟨ho, h⟩ := ckO_spec h
  obtain ⟨r, F1, hG, h⟩ := bnd2_spec h
  exact pw_runV hX hd hL ho (hM r F1 hG) hr hrc hst hnf (fun _ _ => rfl) stk hstk (kk r F1 h)
theorem pw_VR (hX : Ok X cc own mL rm) {a ci : Nat} (stk : List Value) (hd : decode cc pc = .ok (.invokevirtual idx, 3)) (hL : VL own idx ci y yb maxL yret as.length) {G : Option (Nat × Hp)} {K : Nat → Hp → Option α} (h : ckO F a ci (bnd2 G K) = some res) (hM : ∀ r F1, G = some (r, F1) → ∀ n, CT y yb maxL yret (rmd d) n F (.ref a :: as) (some (.ref r)) F1) (hr : d + 1 ≤ rm.frames ∧ 8 + (maxL + 11) + 40 * d ≤ rm.locals) (hrc : kc ≤ rm.cells ∧ ks ≤ rm.slots) (hst : (st.map fun v => v.category).sum ≤ 8) (hnf : nofl as) (hstk : stk = as.reverse ++ .ref a :: st) (kk : ∀ r F1, K r F1 = some res → PW X kc ks F1 (pc + 3) lv (.ref r :: st)) : PW X kc ks F pc lv stk := by
  obtain ⟨ho, h⟩ := ckO_spec h
  obtain ⟨r, F1, hG, h⟩ := bnd2_spec h
  exact pw_runV hX hd hL ho (hM r F1 hG) hr hrc hst hnf (fun _ _ => rfl) stk hstk (kk r F1 h)
theorem pw_V0 (hX : Ok X cc own mL rm) {a ci : Nat} (stk : List Value) (hd : decode cc pc = .ok (.invokevirtual idx, 3)) (hL : VL own idx ci y yb maxL yret as.length) {G : Option Hp} {K : Hp → Option α} (h : ckO F a ci (G.bind K) = some res) (hM : ∀ F1, G = some F1 → ∀ n, CT y yb maxL yret (rmd d) n F (.ref a :: as) none F1) (hr : d + 1 ≤ rm.frames ∧ 8 + (maxL + 11) + 40 * d ≤ rm.locals) (hrc : kc ≤ rm.cells ∧ ks ≤ rm.slots) (hst : (st.map fun v => v.category).sum ≤ 8) (hnf : nofl as) (hstk : stk = as.reverse ++ .ref a :: st) (kk : ∀ F1, K F1 = some res → PW X kc ks F1 (pc + 3) lv st) : PW X kc ks F pc lv stk := by
  obtain ⟨ho, h⟩ := ckO_spec h
  obtain ⟨F1, hG, h⟩ := Option.bind_eq_some_iff.mp h
  exact pw_runV hX hd hL ho (hM F1 hG) hr hrc hst hnf (fun _ _ => rfl) stk hstk (kk F1 h)
theorem pw_VQ (hX : Ok X cc own mL rm) {a ci : Nat} (stk : List Value) (hd : decode cc pc = .ok (.invokevirtual idx, 3)) (hL : VL own idx ci y yb maxL yret as.length) {G : Option (Option Nat × Hp)} {K : Option Nat → Hp → Option α} (h : ckO F a ci (bnd2 G K) = some res) (hM : ∀ r F1, G = some (r, F1) → ∀ n, CT y yb maxL yret (rmd d) n F (.ref a :: as) (some (va_rf r)) F1) (hr : d + 1 ≤ rm.frames ∧ 8 + (maxL + 11) + 40 * d ≤ rm.locals) (hrc : kc ≤ rm.cells ∧ ks ≤ rm.slots) (hst : (st.map fun v => v.category).sum ≤ 8) (hnf : nofl as) (hstk : stk = as.reverse ++ .ref a :: st) (k0 : ∀ F1, K none F1 = some res → PW X kc ks F1 (pc + 3) lv (.null :: st)) (k1 : ∀ q F1, K (some q) F1 = some res → PW X kc ks F1 (pc + 3) lv (.ref q :: st)) : PW X kc ks F pc lv stk := by
  obtain ⟨ho, h⟩ := ckO_spec h
  obtain ⟨r, F1, hG, h⟩ := bnd2_spec h
  cases r with
  | none => exact pw_runV hX hd hL ho (hM none F1 hG) hr hrc hst hnf (fun _ _ => rfl) stk hstk (k0 F1 h)
  | some q => exact pw_runV hX hd hL ho (hM (some q) F1 hG) hr hrc hst hnf (fun _ _ => rfl) stk hstk (k1 q F1 h)
theorem pw_SI (hX : Ok X cc own mL rm) (stk : List Value) (hd : decode cc pc = .ok (.invokestatic idx, 3)) (hL : SL own idx y yb maxL yret as.length) {G : Option (Int32 × Hp)} {K : Int32 → Hp → Option α} (h : bnd2 G K = some res) (hM : ∀ r F1, G = some (r, F1) → ∀ n, CT y yb maxL yret (rmd d) n F as (some (.int r)) F1) (hr : d + 1 ≤ rm.frames ∧ 8 + (maxL + 11) + 40 * d ≤ rm.locals) (hrc : kc ≤ rm.cells ∧ ks ≤ rm.slots) (hst : (st.map fun v => v.category).sum ≤ 8) (hnf : nofl as) (hstk : stk = as.reverse ++ st) (kk : ∀ r F1, K r F1 = some res → PW X kc ks F1 (pc + 3) lv (.int r :: st)) : PW X kc ks F pc lv stk := by
  obtain ⟨r, F1, hG, h⟩ := bnd2_spec h
  exact pw_runS hX hd hL (hM r F1 hG) hr hrc hst hnf (fun _ _ => rfl) stk hstk (kk r F1 h)
theorem pw_SL (hX : Ok X cc own mL rm) (stk : List Value) (hd : decode cc pc = .ok (.invokestatic idx, 3)) (hL : SL own idx y yb maxL yret as.length) {G : Option (Int64 × Hp)} {K : Int64 → Hp → Option α} (h : bnd2 G K = some res) (hM : ∀ r F1, G = some (r, F1) → ∀ n, CT y yb maxL yret (rmd d) n F as (some (.long r)) F1) (hr : d + 1 ≤ rm.frames ∧ 8 + (maxL + 11) + 40 * d ≤ rm.locals) (hrc : kc ≤ rm.cells ∧ ks ≤ rm.slots) (hst : (st.map fun v => v.category).sum ≤ 8) (hnf : nofl as) (hstk : stk = as.reverse ++ st) (kk : ∀ r F1, K r F1 = some res → PW X kc ks F1 (pc + 3) lv (.long r :: st)) : PW X kc ks F pc lv stk := by
  obtain ⟨r, F1, hG, h⟩ := bnd2_spec h
  exact pw_runS hX hd hL (hM r F1 hG) hr hrc hst hnf (fun _ _ => rfl) stk hstk (kk r F1 h)
theorem pw_SR (hX : Ok X cc own mL rm) (stk : List Value) (hd : decode cc pc = .ok (.invokestatic idx, 3)) (hL : SL own idx y yb maxL yret as.length) {G : Option (Nat × Hp)} {K : Nat → Hp → Option α} (h : bnd2 G K = some res) (hM : ∀ r F1, G = some (r, F1) → ∀ n, CT y yb maxL yret (rmd d) n F as (some (.ref r)) F1) (hr : d + 1 ≤ rm.frames ∧ 8 + (maxL + 11) + 40 * d ≤ rm.locals) (hrc : kc ≤ rm.cells ∧ ks ≤ rm.slots) (hst : (st.map fun v => v.category).sum ≤ 8) (hnf : nofl as) (hstk : stk = as.reverse ++ st) (kk : ∀ r F1, K r F1 = some res → PW X kc ks F1 (pc + 3) lv (.ref r :: st)) : PW X kc ks F pc lv stk := by
  obtain ⟨r, F1, hG, h⟩ := bnd2_spec h
  exact pw_runS hX hd hL (hM r F1 hG) hr hrc hst hnf (fun _ _ => rfl) stk hstk (kk r F1 h)
theorem pw_S0 (hX : Ok X cc own mL rm) (stk : List Value) (hd : decode cc pc = .ok (.invokestatic idx, 3)) (hL : SL own idx y yb maxL yret as.length) {G : Option Hp} {K : Hp → Option α} (h : G.bind K = some res) (hM : ∀ F1, G = some F1 → ∀ n, CT y yb maxL yret (rmd d) n F as none F1) (hr : d + 1 ≤ rm.frames ∧ 8 + (maxL + 11) + 40 * d ≤ rm.locals) (hrc : kc ≤ rm.cells ∧ ks ≤ rm.slots) (hst : (st.map fun v => v.category).sum ≤ 8) (hnf : nofl as) (hstk : stk = as.reverse ++ st) (kk : ∀ F1, K F1 = some res → PW X kc ks F1 (pc + 3) lv st) : PW X kc ks F pc lv stk := by
  obtain ⟨F1, hG, h⟩ := Option.bind_eq_some_iff.mp h
  exact pw_runS hX hd hL (hM F1 hG) hr hrc hst hnf (fun _ _ => rfl) stk hstk (kk F1 h)
theorem pw_NI (hX : Ok X cc own mL rm) (stk : List Value) (hd : decode cc pc = .ok (.invokestatic idx, 3)) (hL : NL own idx y yb maxL yret as.length) {G : Option (Int32 × Hp)} {K : Int32 → Hp → Option α} (h : bnd2 G K = some res) (hM : ∀ r F1, G = some (r, F1) → ∀ n, CT y yb maxL yret (rmd d) n F as (some (.int r)) F1) (hr : d + 1 ≤ rm.frames ∧ 8 + (maxL + 11) + 40 * d ≤ rm.locals) (hrc : kc ≤ rm.cells ∧ ks ≤ rm.slots) (hst : (st.map fun v => v.category).sum ≤ 8) (hnf : nofl as) (hstk : stk = as.reverse ++ st) (kk : ∀ r F1, K r F1 = some res → PW X kc ks F1 (pc + 3) lv (.int r :: st)) : PW X kc ks F pc lv stk := by
  obtain ⟨r, F1, hG, h⟩ := bnd2_spec h
  exact pw_runN hX hd hL (hM r F1 hG) hr hrc hst hnf (fun _ _ => rfl) stk hstk (kk r F1 h)
end CALLT
section RETS
variable {X : Cx} {cc : ByteArray} {own : String} {mL : Nat} {rm : Room} {kc ks : Nat} {F F' : Hp} {pc : Nat} {lv : List (Nat × Value)} {nm : Bool}
theorem pw_iret (hX : Ok X cc own mL rm) {x x' : Int32} (hT : Rt X (some .int) nm kc ks (some (.int x')) F') (hd : decode cc pc = .ok (.ireturn, 1)) (h : some (x, F) = some (x', F')) : PW X kc ks F pc lv [.int x] := by
  cases h
  obtain ⟨⟨p, l, e, R, s⟩, ⟨m, args, below, meth, c⟩, ⟨Q, D, cy⟩, ⟨b, n0, nL, sc⟩⟩ := X
  obtain ⟨hx, hb, hml, hown, hts, hK, hsz, hlk, hR, hN, hnL⟩ := hX
  obtain ⟨hr, hQ, -⟩ := hT
  intro hF H locs ls hP hS hl
  subst hQ
  exact W.iret hx hb hr (fun t ht hW => ⟨rfl, by rw [ht]; exact hP, hS.F ht, hF⟩) hS.2.2 hd
theorem pw_zretc (hX : Ok X cc own mL rm) {x x' : Int32} (hT : Rt X (some .boolean) nm kc ks (some (.int x')) F') (hd : decode cc pc = .ok (.ireturn, 1)) (hz : x = 0 ∨ x = 1) (h : some (x, F) = some (x', F')) : PW X kc ks F pc lv [.int x] := by
  cases h
  obtain ⟨⟨p, l, e, R, s⟩, ⟨m, args, below, meth, c⟩, ⟨Q, D, cy⟩, ⟨b, n0, nL, sc⟩⟩ := X
  obtain ⟨hx, hb, hml, hown, hts, hK, hsz, hlk, hR, hN, hnL⟩ := hX
  obtain ⟨hr, hQ, -⟩ := hT
  intro hF H locs ls hP hS hl
  subst hQ
  exact W.zret hx hb hr (by rcases hz with rfl | rfl <;> rfl) (fun t ht hW => ⟨rfl, by rw [ht]; exact hP, hS.F ht, hF⟩) hS.2.2 hd
theorem pw_zret (hX : Ok X cc own mL rm) {x x' : Int32} (hT : Rt X (some .boolean) nm kc ks (some (.int x')) F') (hd : decode cc pc = .ok (.ireturn, 1)) (h : (if x = 0 ∨ x = 1 then some (x, F) else none) = some (x', F')) : PW X kc ks F pc lv [.int x] := by
  by_cases hz : x = 0 ∨ x = 1
  · rw [if_pos hz] at h; exact pw_zretc hX hT hd hz h
  · rw [if_neg hz] at h; cases h
theorem pw_lret (hX : Ok X cc own mL rm) {x x' : Int64} (hT : Rt X (some .long) nm kc ks (some (.long x')) F') (hd : decode cc pc = .ok (.lreturn, 1)) (h : some (x, F) = some (x', F')) : PW X kc ks F pc lv [.long x] := by
  cases h
  obtain ⟨⟨p, l, e, R, s⟩, ⟨m, args, below, meth, c⟩, ⟨Q, D, cy⟩, ⟨b, n0, nL, sc⟩⟩ := X
  obtain ⟨hx, hb, hml, hown, hts, hK, hsz, hlk, hR, hN, hnL⟩ := hX
  obtain ⟨hr, hQ, -⟩ := hT
  intro hF H locs ls hP hS hl
  subst hQ
  exact W.lret hx hb hr (fun t ht hW => ⟨rfl, by rw [ht]; exact hP, hS.F ht, hF⟩) hS.2.2 hd
theorem pw_vret (hX : Ok X cc own mL rm) (hT : Rt X none nm kc ks none F') (hd : decode cc pc = .ok (.return_, 1)) (h : some F = some F') : PW X kc ks F pc lv [] := by
  cases h
  obtain ⟨⟨p, l, e, R, s⟩, ⟨m, args, below, meth, c⟩, ⟨Q, D, cy⟩, ⟨b, n0, nL, sc⟩⟩ := X
  obtain ⟨hx, hb, hml, hown, hts, hK, hsz, hlk, hR, hN, hnL⟩ := hX
  obtain ⟨hr, hQ, -⟩ := hT
  intro hF H locs ls hP hS hl
  subst hQ
  exact W.vret hx hb hr (fun t ht hW => ⟨rfl, by rw [ht]; exact hP, hS.F ht, hF⟩) hS.2.2 hd
theorem pw_aret (hX : Ok X cc own mL rm) {x x' : Nat} {o : String} (hT : Rt X (some (.object o)) nm kc ks (some (.ref x')) F') (hd : decode cc pc = .ok (.areturn, 1)) (h : some (x, F) = some (x', F')) : PW X kc ks F pc lv [.ref x] := by
  cases h
  obtain ⟨⟨p, l, e, R, s⟩, ⟨m, args, below, meth, c⟩, ⟨Q, D, cy⟩, ⟨b, n0, nL, sc⟩⟩ := X
  obtain ⟨hx, hb, hml, hown, hts, hK, hsz, hlk, hR, hN, hnL⟩ := hX
  obtain ⟨hr, hQ, -⟩ := hT
  intro hF H locs ls hP hS hl
  subst hQ
  exact W.aret hx hb hr (Or.inl ⟨o, rfl⟩) (Or.inr ⟨_, rfl⟩) (fun t ht hW => ⟨rfl, by rw [ht]; exact hP, hS.F ht, hF⟩) hS.2.2 hd
theorem pw_aretQ (hX : Ok X cc own mL rm) {x x' : Option Nat} {o : String} (hT : Rt X (some (.object o)) nm kc ks (some (va_rf x')) F') (hd : decode cc pc = .ok (.areturn, 1)) (v : Value) (hv : v = va_rf x) (h : some (x, F) = some (x', F')) : PW X kc ks F pc lv [v] := by
  cases h
  subst hv
  obtain ⟨⟨p, l, e, R, s⟩, ⟨m, args, below, meth, c⟩, ⟨Q, D, cy⟩, ⟨b, n0, nL, sc⟩⟩ := X
  obtain ⟨hx, hb, hml, hown, hts, hK, hsz, hlk, hR, hN, hnL⟩ := hX
  obtain ⟨hr, hQ, -⟩ := hT
  intro hF H locs ls hP hS hl
  subst hQ
  cases x with
  | none => exact W.aret hx hb hr (Or.inl ⟨o, rfl⟩) (Or.inl rfl) (fun t ht hW => ⟨rfl, by rw [ht]; exact hP, hS.F ht, hF⟩) hS.2.2 hd
  | some q => exact W.aret hx hb hr (Or.inl ⟨o, rfl⟩) (Or.inr ⟨_, rfl⟩) (fun t ht hW => ⟨rfl, by rw [ht]; exact hP, hS.F ht, hF⟩) hS.2.2 hd
end RETS
theorem lva_map (b : Nat) : ∀ (as : List Value) (i : Nat), lv_args i (as.map (mv b 0)) = (lv_args i as).map (fun q => (q.1, mv b 0 q.2))
  | [], i => rfl
  | v :: as, i => by
    simp only [List.map_cons, lv_args, mv_cat]
    rw [lva_map b as]
theorem lgs_len (b : Nat) : ∀ (as : List Value), (lg_sl (as.map (mv b 0))).length = (lg_sl as).length
  | [] => rfl
  | v :: as => by
    have := lgs_len b as
    simp only [lg_sl, List.map_cons, List.flatMap_cons, List.length_append, mv_cat] at this ⊢
    rw [this]
    split <;> rfl
/-- a contract out of the walk of its body -/
theorem ct_intro {y : MethodName} {cc : ByteArray} {own : String} {maxL : Nat} {ret : Option FieldType} {rm : Room} {nm : Bool} {n : Nat} {F : Hp} {as : List Value} {rv : Option Value} {F' : Hp} (hp : plainName y.cls = true) (ho : y.cls = own) (hnm : nm = true → y.name = "<init>") (hln : (lg_sl as).length ≤ maxL)
    (body : ∀ X : Cx, X.2.2.2.2.1 = n → Md X cc own maxL rm ret nm rv F' → PW X 0 0 F 0 (lv_args 0 as) []) : CT y cc maxL ret rm n F as rv F' := by
  intro l D cy b
  refine Met.ofW (cc := cc) (maxL := maxL) (ret := ret) hp rfl ?_
  intro p e s m args below meth c s₁ B hml hv
  obtain ⟨rfl, hsz, hP, hK, hN, hF⟩ := hv
  have hts0 := atoms_spec (ws := Cond.code y cc maxL ret :: lw_g) B.pre
  have hown : s.vm.findClass y.cls = some m.cls := findClass_of_methodNamed B.named
  have hl := lv_entry (as.map (mv b 0)) (n := maxL) (by rw [lgs_len]; exact hln)
  rw [lg_entry_eq]
  rw [lva_map] at hl
  exact body ((p, l, e, rm, s), (m, (as.map (mv b 0)).toArray, below, meth, c), (MQ below (gQc D cy b (n + rm.cells) rv F') (as.map (mv b 0)).toArray s rm.cells rm.slots (fun q => b ≤ q), D, cy), (b, n, maxL, 0)) rfl ⟨⟨B.exec, B.bytes, hml, ho ▸ hown, fun w hw => hts0 w (List.mem_cons_of_mem _ hw), hK, hsz, B.notSynchronized, rfl, hN, rfl⟩, B.returns, rfl, fun h => (name_of_methodNamed B.named B.method).1.trans (hnm h)⟩ hF s.heap [] _ hP va_S.rf hl

