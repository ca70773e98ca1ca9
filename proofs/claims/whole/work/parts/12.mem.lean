/-! memory over the ghost heap -/
def gV (F : Hp) (a ci k : Nat) : Option Value := match F a with
  | .inr (c, fs) => if c = ci then fs[k]? else none
  | .inl _ => none
def gI (F : Hp) (a ci k : Nat) : Option Int32 := match gV F a ci k with
  | some (.int x) => some x
  | _ => none
def gR (F : Hp) (a ci k : Nat) : Option Nat := match gV F a ci k with
  | some (.ref x) => some x
  | _ => none
def gL (F : Hp) (a ci k : Nat) : Option Int64 := match gV F a ci k with
  | some (.long x) => some x
  | _ => none
def pV (F : Hp) (a ci k : Nat) (v : Value) : Option Hp := match F a with
  | .inr (c, fs) => if c = ci ∧ k < fs.length then some (va_up F a (.inr (c, fs.set k v))) else none
  | .inl _ => none
/-- an int row (kind 0) or a boolean row (kind 1): its length and contents -/
def gA (F : Hp) (a kd : Nat) : Option (Nat × (Nat → Int32)) := match F a with
  | .inl (t, n, .inl f) => if t = kd then some (n, f) else none
  | _ => none
def aI (F : Hp) (a kd : Nat) (i : Int32) : Option Int32 := match gA F a kd with
  | some (n, f) => if i < 0 ∨ n ≤ i.toNatClampNeg then none else some (f i.toNatClampNeg)
  | none => none
def sI (F : Hp) (a kd : Nat) (i x : Int32) : Option Hp := match gA F a kd with
  | some (n, f) => if i < 0 ∨ n ≤ i.toNatClampNeg then none else some (va_up F a (.inl (kd, n, .inl (upd f i.toNatClampNeg x))))
  | none => none
/-- a row of references to Doze objects (kind 2) -/
def gQ (F : Hp) (a : Nat) : Option (Nat × (Nat → Option Nat)) := match F a with
  | .inl (t, n, .inr (.inr (.inr (.inr f)))) => if t = 2 then some (n, f) else none
  | _ => none
def aQ (F : Hp) (a : Nat) (i : Int32) : Option (Option Nat) := match gQ F a with
  | some (n, f) => if i < 0 ∨ n ≤ i.toNatClampNeg then none else some (f i.toNatClampNeg)
  | none => none
/-- an object of that kind -/
def isO (F : Hp) (a ci : Nat) : Bool := match F a with
  | .inr (c, _) => decide (c = ci)
  | .inl _ => false
def sQ (F : Hp) (a : Nat) (i : Int32) (v : Nat) : Option Hp := match gQ F a with
  | some (n, f) => if (i < 0 ∨ n ≤ i.toNatClampNeg) ∨ isO F v 1 = false then none else some (va_up F a (.inl (2, n, .inr (.inr (.inr (.inr (va_up f i.toNatClampNeg (some v))))))))
  | none => none
def aN (F : Hp) (a : Nat) : Option Int32 := match F a with
  | .inl (t, n, _) => if t < 3 then some (Int32.ofNat n) else none
  | .inr _ => none
theorem gV_spec {F : Hp} {a ci k : Nat} {v : Value} (h : gV F a ci k = some v) : ∃ fs, F a = .inr (ci, fs) ∧ fs[k]? = some v := by
  unfold gV at h
  split at h
  · next c fs e =>
    split at h
    · next hc => subst hc; exact ⟨fs, e, h⟩
    · cases h
  · cases h
theorem gI_spec {F : Hp} {a ci k : Nat} {x : Int32} (h : gI F a ci k = some x) : ∃ fs, F a = .inr (ci, fs) ∧ fs[k]? = some (.int x) := by
  unfold gI at h
  split at h
  · next y e => cases h; exact gV_spec e
  · cases h
theorem gR_spec {F : Hp} {a ci k : Nat} {x : Nat} (h : gR F a ci k = some x) : ∃ fs, F a = .inr (ci, fs) ∧ fs[k]? = some (.ref x) := by
  unfold gR at h
  split at h
  · next y e => cases h; exact gV_spec e
  · cases h
theorem gL_spec {F : Hp} {a ci k : Nat} {x : Int64} (h : gL F a ci k = some x) : ∃ fs, F a = .inr (ci, fs) ∧ fs[k]? = some (.long x) := by
  unfold gL at h
  split at h
  · next y e => cases h; exact gV_spec e
  · cases h
theorem pV_spec {F F1 : Hp} {a ci k : Nat} {v : Value} (h : pV F a ci k v = some F1) : ∃ fs, F a = .inr (ci, fs) ∧ k < fs.length ∧ F1 = va_up F a (.inr (ci, fs.set k v)) := by
  unfold pV at h
  split at h
  · next c fs e =>
    split at h
    · next hc => obtain ⟨hc, hk⟩ := hc; subst hc; cases h; exact ⟨fs, e, hk, rfl⟩
    · cases h
  · cases h
theorem gA_spec {F : Hp} {a kd n : Nat} {f : Nat → Int32} (h : gA F a kd = some (n, f)) : F a = .inl (kd, n, .inl f) := by
  unfold gA at h
  split at h
  · next t n2 f2 e =>
    split at h
    · next hc => subst hc; cases h; exact e
    · cases h
  · cases h
theorem aI_spec {F : Hp} {a kd : Nat} {i x : Int32} (h : aI F a kd i = some x) : ∃ n f, F a = .inl (kd, n, .inl f) ∧ vp_in i n ∧ x = f i.toNatClampNeg := by
  unfold aI at h
  split at h
  · next n f e =>
    split at h
    · cases h
    · next hc => cases h; exact ⟨n, f, gA_spec e, hc, rfl⟩
  · cases h
theorem sI_spec {F F1 : Hp} {a kd : Nat} {i x : Int32} (h : sI F a kd i x = some F1) : ∃ n f, F a = .inl (kd, n, .inl f) ∧ vp_in i n ∧ F1 = va_up F a (.inl (kd, n, .inl (upd f i.toNatClampNeg x))) := by
  unfold sI at h
  split at h
  · next n f e =>
    split at h
    · cases h
    · next hc => cases h; exact ⟨n, f, gA_spec e, hc, rfl⟩
  · cases h
theorem gQ_spec {F : Hp} {a n : Nat} {f : Nat → Option Nat} (h : gQ F a = some (n, f)) : F a = .inl (2, n, .inr (.inr (.inr (.inr f)))) := by
  unfold gQ at h
  split at h
  · next t n2 f2 e =>
    split at h
    · next hc => subst hc; cases h; exact e
    · cases h
  · cases h
theorem aQ_spec {F : Hp} {a : Nat} {i : Int32} {x : Option Nat} (h : aQ F a i = some x) : ∃ n f, F a = .inl (2, n, .inr (.inr (.inr (.inr f)))) ∧ vp_in i n ∧ x = f i.toNatClampNeg := by
  unfold aQ at h
  split at h
  · next n f e =>
    split at h
    · cases h
    · next hc => cases h; exact ⟨n, f, gQ_spec e, hc, rfl⟩
  · cases h
theorem isO_spec {F : Hp} {a ci : Nat} (h : isO F a ci = true) : ∃ fs, F a = .inr (ci, fs) := by
  unfold isO at h
  split at h
  · next c fs e => have := of_decide_eq_true h; subst this; exact ⟨fs, e⟩
  · cases h
theorem sQ_spec {F F1 : Hp} {a v : Nat} {i : Int32} (h : sQ F a i v = some F1) : ∃ n f, F a = .inl (2, n, .inr (.inr (.inr (.inr f)))) ∧ vp_in i n ∧ (∃ fs, F v = .inr (1, fs)) ∧ F1 = va_up F a (.inl (2, n, .inr (.inr (.inr (.inr (va_up f i.toNatClampNeg (some v))))))) := by
  unfold sQ at h
  split at h
  · next n f e =>
    split at h
    · cases h
    · next hc => cases h; exact ⟨n, f, gQ_spec e, fun q => hc (Or.inl q), isO_spec (by cases ho : isO F v 1 with | true => rfl | false => exact absurd (Or.inr ho) hc), rfl⟩
  · cases h
theorem aN_spec {F : Hp} {a : Nat} {x : Int32} (h : aN F a = some x) : ∃ (t n : Nat) (r : (Nat → Int32) ⊕ (Nat → Int64) ⊕ (Nat → UInt32) ⊕ (Nat → UInt64) ⊕ (Nat → Option Nat)), F a = .inl (t, n, r) ∧ t < 3 ∧ x = Int32.ofNat n := by
  unfold aN at h
  split at h
  · next t n r e =>
    split at h
    · next hc => cases h; exact ⟨t, n, r, e, hc, rfl⟩
    · cases h
  · cases h
theorem dom_r {F : Hp} {n a : Nat} {q : Nat × List Value} (hF : ∀ k, n ≤ k → F k = dd) (h : F a = .inr q) : a < n := by
  rcases Nat.lt_or_ge a n with g | g
  · exact g
  · rw [hF a g] at h; cases h
theorem dom_l {F : Hp} {n a t : Nat} {q : vp_A} (hF : ∀ k, n ≤ k → F k = dd) (h : F a = .inl (t, q)) (ht : t < 3) : a < n := by
  rcases Nat.lt_or_ge a n with g | g
  · exact g
  · rw [hF a g] at h
    unfold dd at h
    cases h
    omega
theorem dom_up {F : Hp} {n a : Nat} {e : va_E} (hF : ∀ k, n ≤ k → F k = dd) (ha : a < n) : ∀ k, n ≤ k → va_up F a e k = dd := fun k hk => by rw [va_up_ne _ _ (by omega)]; exact hF k hk
theorem mE_r {cy : Nat → ClassId} {b ci : Nat} {fs : List Value} : mE cy b (.inr (ci, fs)) = .inr (ci, fs.map (mv b 0)) := rfl
theorem mE_i {cy : Nat → ClassId} {b t n : Nat} {f : Nat → Int32} : mE cy b (.inl (t, n, .inl f)) = .inl (cy t, n, .inl f) := rfl
theorem mE_q {cy : Nat → ClassId} {b t n : Nat} {f : Nat → Option Nat} : mE cy b (.inl (t, n, .inr (.inr (.inr (.inr f))))) = .inl (cy t, n, .inr (.inr (.inr (.inr (fun i => (f i).map (fun q => b + q)))))) := rfl
/-- a link to a field: in the tables, and the kind's words there too -/
def FL (own : String) (idx ci k : Nat) : Prop := ∃ q : vw_C, vwCl[ci]? = some q ∧ k < q.2.2 ∧ Cond.fieldLink own idx (q.2.1 k).1 (q.2.1 k).2.1 (q.2.1 k).2.2.1 ∈ lw_g ∧ ∀ w ∈ u_ws q.1 q.2.1 q.2.2, w ∈ lw_g
def FP (own : String) (idx ci k : Nat) (ty : FieldType) (fin : Bool) : Prop := ∃ (q : vw_C) (ty0 : Nat → FieldType), vwCl[ci]? = some q ∧ k < q.2.2 ∧ Cond.fieldLink own idx (q.2.1 k).1 (q.2.1 k).2.1 (q.2.1 k).2.2.1 ∈ lw_g ∧ (∀ w ∈ u_ws q.1 q.2.1 q.2.2, w ∈ lw_g) ∧ (∀ k, k < q.2.2 → parseFieldDescriptor (q.2.1 k).2.2.1 = some (ty0 k)) ∧ (∀ a, a < q.2.2 → ∀ b, b < q.2.2 → a ≠ b → (q.2.1 a).2.1 ≠ (q.2.1 b).2.1) ∧ (q.2.1 k).2.2.2 = fin ∧ parseFieldDescriptor (q.2.1 k).2.2.1 = some ty ∧ (fin = true → (q.2.1 k).1 = own)
section MEM
variable {X : Cx} {cc : ByteArray} {own : String} {mL : Nat} {rm : Room} {kc ks : Nat} {F : Hp} {pc : Nat} {lv : List (Nat × Value)} {st : List Value} {α : Type} {res : α}
theorem pw_getV (hX : Ok X cc own mL rm) {a ci k idx : Nat} {v : Value} {fs : List Value} (hd : decode cc pc = .ok (.getfield idx, 3)) (hl0 : FL own idx ci k) (hv1 : ∀ b sc, mv b sc v = mv b 0 v) (hFa : F a = .inr (ci, fs)) (hv : fs[k]? = some v) (kk : PW X kc ks F (pc + 3) lv (v :: st)) : PW X kc ks F pc lv (.ref a :: st) := by
  obtain ⟨⟨p, l, e, R, s⟩, ⟨m, args, below, meth, c⟩, ⟨Q, D, cy⟩, ⟨b, n0, nL, sc⟩⟩ := X
  obtain ⟨hx, hb, hml, hown, hts, hK, hsz, hlk, hR, hN, hnL⟩ := hX
  intro hF H locs ls hP hS hl
  obtain ⟨q, hq, hk, hlink, hin⟩ := hl0
  have ha := dom_r hF hFa
  have := kk hF H locs ls hP hS hl
  rw [List.map_cons, hv1 b sc] at this
  exact va_get (D := D) (ci := ci) (fs := fs.map (mv b 0)) (v := mv b 0 v) (C := q.1) (T := q.2.1) (N := q.2.2) hx hb hts hin hown hK hP a (wl_at ha hFa) hq k hk (hts _ hlink) (fun _ h => h) (by rw [List.getElem?_map, hv]; rfl) hd this
theorem pw_getI (hX : Ok X cc own mL rm) {a ci k idx : Nat} {K : Int32 → Option α} (hd : decode cc pc = .ok (.getfield idx, 3)) (hl0 : FL own idx ci k) (h : (gI F a ci k).bind K = some res) (kk : ∀ x, K x = some res → PW X kc ks F (pc + 3) lv (.int x :: st)) : PW X kc ks F pc lv (.ref a :: st) := by
  obtain ⟨x, hx, h⟩ := Option.bind_eq_some_iff.mp h
  obtain ⟨fs, h1, h2⟩ := gI_spec hx
  exact pw_getV hX hd hl0 (fun _ _ => rfl) h1 h2 (kk x h)
theorem pw_getL (hX : Ok X cc own mL rm) {a ci k idx : Nat} {K : Int64 → Option α} (hd : decode cc pc = .ok (.getfield idx, 3)) (hl0 : FL own idx ci k) (h : (gL F a ci k).bind K = some res) (kk : ∀ x, K x = some res → PW X kc ks F (pc + 3) lv (.long x :: st)) : PW X kc ks F pc lv (.ref a :: st) := by
  obtain ⟨x, hx, h⟩ := Option.bind_eq_some_iff.mp h
  obtain ⟨fs, h1, h2⟩ := gL_spec hx
  exact pw_getV hX hd hl0 (fun _ _ => rfl) h1 h2 (kk x h)
theorem pw_getR (hX : Ok X cc own mL rm) {a ci k idx : Nat} {K : Nat → Option α} (hd : decode cc pc = .ok (.getfield idx, 3)) (hl0 : FL own idx ci k) (h : (gR F a ci k).bind K = some res) (kk : ∀ x, K x = some res → PW X kc ks F (pc + 3) lv (.ref x :: st)) : PW X kc ks F pc lv (.ref a :: st) := by
  obtain ⟨x, hx, h⟩ := Option.bind_eq_some_iff.mp h
  obtain ⟨fs, h1, h2⟩ := gR_spec hx
  exact pw_getV hX hd hl0 (fun _ _ => rfl) h1 h2 (kk x h)
theorem pw_putV (hX : Ok X cc own mL rm) {a ci k idx : Nat} {v : Value} {ty : FieldType} {fs : List Value} (hd : decode cc pc = .ok (.putfield idx, 3)) (hl0 : FP own idx ci k ty false) (hv1 : ∀ b sc, mv b sc v = mv b 0 v) (hn : ∀ b, narrow ty (mv b 0 v) = mv b 0 v) (hfit : ∀ b, fits ty (mv b 0 v) = true) (hFa : F a = .inr (ci, fs)) (hv : k < fs.length) (kk : PW X kc ks (va_up F a (.inr (ci, fs.set k v))) (pc + 3) lv st) : PW X kc ks F pc lv (v :: .ref a :: st) := by
  obtain ⟨⟨p, l, e, R, s⟩, ⟨m, args, below, meth, c⟩, ⟨Q, D, cy⟩, ⟨b, n0, nL, sc⟩⟩ := X
  obtain ⟨hx, hb, hml, hown, hts, hK, hsz, hlk, hR, hN, hnL⟩ := hX
  intro hF H locs ls hP hS hl
  obtain ⟨q, ty0, hq, hk, hlink, hin, hty, hnm, hfin, hpd, -⟩ := hl0
  have ha := dom_r hF hFa
  rw [List.map_cons, hv1 b sc]
  refine va_put (D := D) (ci := ci) (fs := fs.map (mv b 0)) (v := mv b 0 v) (ty := ty) (C := q.1) (T := q.2.1) (N := q.2.2) hx hb hts hin ty0 hty hnm hown hK hP wl_D hS a (wl_at ha hFa) hq k hk (hts _ hlink) (fun _ h => h) hfin hpd (hn b) (hfit b) (by rw [List.length_map]; exact hv) hd (fun H1 locs1 hP1 _ hS1 => ?_)
  refine kk (dom_up hF ha) H1 locs1 ls ?_ hS1 hl
  rw [← List.map_set, ← mE_r (cy := cy), wl_set] at hP1
  exact hP1
theorem pw_putI (hX : Ok X cc own mL rm) {a ci k idx : Nat} {x : Int32} {K : Hp → Option α} (hd : decode cc pc = .ok (.putfield idx, 3)) (hl0 : FP own idx ci k .int false) (h : (pV F a ci k (.int x)).bind K = some res) (kk : ∀ F1, K F1 = some res → PW X kc ks F1 (pc + 3) lv st) : PW X kc ks F pc lv (.int x :: .ref a :: st) := by
  obtain ⟨F1, hx, h⟩ := Option.bind_eq_some_iff.mp h
  obtain ⟨fs, h1, h2, rfl⟩ := pV_spec hx
  exact pw_putV hX hd hl0 (fun _ _ => rfl) (fun _ => rfl) (fun _ => rfl) h1 h2 (kk _ h)
theorem pw_putL (hX : Ok X cc own mL rm) {a ci k idx : Nat} {x : Int64} {K : Hp → Option α} (hd : decode cc pc = .ok (.putfield idx, 3)) (hl0 : FP own idx ci k .long false) (h : (pV F a ci k (.long x)).bind K = some res) (kk : ∀ F1, K F1 = some res → PW X kc ks F1 (pc + 3) lv st) : PW X kc ks F pc lv (.long x :: .ref a :: st) := by
  obtain ⟨F1, hx, h⟩ := Option.bind_eq_some_iff.mp h
  obtain ⟨fs, h1, h2, rfl⟩ := pV_spec hx
  exact pw_putV hX hd hl0 (fun _ _ => rfl) (fun _ => rfl) (fun _ => rfl) h1 h2 (kk _ h)
/-- a boolean field: the ghost tests that it is 0 or 1 -/
def pZ (F : Hp) (a ci k : Nat) (x : Int32) : Option Hp := if x = 0 ∨ x = 1 then pV F a ci k (.int x) else none
theorem pw_putZ (hX : Ok X cc own mL rm) {a ci k idx : Nat} {x : Int32} {K : Hp → Option α} (hd : decode cc pc = .ok (.putfield idx, 3)) (hl0 : FP own idx ci k .boolean false) (h : (pZ F a ci k x).bind K = some res) (kk : ∀ F1, K F1 = some res → PW X kc ks F1 (pc + 3) lv st) : PW X kc ks F pc lv (.int x :: .ref a :: st) := by
  obtain ⟨F1, hx, h⟩ := Option.bind_eq_some_iff.mp h
  unfold pZ at hx
  split at hx
  · next hz =>
    obtain ⟨fs, h1, h2, rfl⟩ := pV_spec hx
    exact pw_putV hX hd hl0 (fun _ _ => rfl) (fun _ => by rcases hz with rfl | rfl <;> rfl) (fun _ => by rcases hz with rfl | rfl <;> rfl) h1 h2 (kk _ h)
  · cases hx
theorem pw_iald (hX : Ok X cc own mL rm) {a : Nat} {i : Int32} {K : Int32 → Option α} (hd : decode cc pc = .ok (.iaload, 1)) (h : (aI F a 0 i).bind K = some res) (kk : ∀ x, K x = some res → PW X kc ks F (pc + 1) lv (.int x :: st)) : PW X kc ks F pc lv (.int i :: .ref a :: st) := by
  obtain ⟨x, hx0, h⟩ := Option.bind_eq_some_iff.mp h
  obtain ⟨n, f, h1, h2, rfl⟩ := aI_spec hx0
  obtain ⟨⟨p, l, e, R, s⟩, ⟨m, args, below, meth, c⟩, ⟨Q, D, cy⟩, ⟨b, n0, nL, sc⟩⟩ := X
  obtain ⟨hx, hb, hml, hown, hts, hK, hsz, hlk, hR, hN, hnL⟩ := hX
  intro hF H locs ls hP hS hl
  exact va_iald hx hb hK hP a 0 (wl_at (dom_l hF h1 (by omega)) h1) rfl h2 hd (kk _ h hF H locs ls hP hS hl)
theorem pw_zald (hX : Ok X cc own mL rm) {a : Nat} {i : Int32} {K : Int32 → Option α} (hd : decode cc pc = .ok (.baload, 1)) (h : (aI F a 1 i).bind K = some res) (kk : ∀ x, K x = some res → PW X kc ks F (pc + 1) lv (.int x :: st)) : PW X kc ks F pc lv (.int i :: .ref a :: st) := by
  obtain ⟨x, hx0, h⟩ := Option.bind_eq_some_iff.mp h
  obtain ⟨n, f, h1, h2, rfl⟩ := aI_spec hx0
  obtain ⟨⟨p, l, e, R, s⟩, ⟨m, args, below, meth, c⟩, ⟨Q, D, cy⟩, ⟨b, n0, nL, sc⟩⟩ := X
  obtain ⟨hx, hb, hml, hown, hts, hK, hsz, hlk, hR, hN, hnL⟩ := hX
  intro hF H locs ls hP hS hl
  exact va_zald hx hb hK hP a 1 (wl_at (dom_l hF h1 (by omega)) h1) rfl h2 hd (kk _ h hF H locs ls hP hS hl)
theorem pw_iast (hX : Ok X cc own mL rm) {a : Nat} {i x : Int32} {K : Hp → Option α} (hd : decode cc pc = .ok (.iastore, 1)) (h : (sI F a 0 i x).bind K = some res) (kk : ∀ F1, K F1 = some res → PW X kc ks F1 (pc + 1) lv st) : PW X kc ks F pc lv (.int x :: .int i :: .ref a :: st) := by
  obtain ⟨F1, hx0, h⟩ := Option.bind_eq_some_iff.mp h
  obtain ⟨n, f, h1, h2, rfl⟩ := sI_spec hx0
  obtain ⟨⟨p, l, e, R, s⟩, ⟨m, args, below, meth, c⟩, ⟨Q, D, cy⟩, ⟨b, n0, nL, sc⟩⟩ := X
  obtain ⟨hx, hb, hml, hown, hts, hK, hsz, hlk, hR, hN, hnL⟩ := hX
  intro hF H locs ls hP hS hl
  have ha := dom_l hF h1 (by omega)
  refine va_iast hx hb hK hP wl_D hS a 0 (wl_at ha h1) rfl h2 hd (fun H1 locs1 hP1 _ hS1 => ?_)
  refine kk _ h (dom_up hF ha) H1 locs1 ls ?_ hS1 hl
  rw [← mE_i (cy := cy) (b := b), wl_set] at hP1
  exact hP1
theorem pw_zast (hX : Ok X cc own mL rm) {a : Nat} {i x : Int32} {K : Hp → Option α} (hd : decode cc pc = .ok (.bastore, 1)) (hz : vp_nar .boolean x = x) (h : (sI F a 1 i x).bind K = some res) (kk : ∀ F1, K F1 = some res → PW X kc ks F1 (pc + 1) lv st) : PW X kc ks F pc lv (.int x :: .int i :: .ref a :: st) := by
  obtain ⟨F1, hx0, h⟩ := Option.bind_eq_some_iff.mp h
  obtain ⟨n, f, h1, h2, rfl⟩ := sI_spec hx0
  obtain ⟨⟨p, l, e, R, s⟩, ⟨m, args, below, meth, c⟩, ⟨Q, D, cy⟩, ⟨b, n0, nL, sc⟩⟩ := X
  obtain ⟨hx, hb, hml, hown, hts, hK, hsz, hlk, hR, hN, hnL⟩ := hX
  intro hF H locs ls hP hS hl
  have ha := dom_l hF h1 (by omega)
  refine va_zast hx hb hK hP wl_D hS a 1 (wl_at ha h1) rfl h2 hd (fun H1 locs1 hP1 _ hS1 => ?_)
  refine kk _ h (dom_up hF ha) H1 locs1 ls ?_ hS1 hl
  rw [hz, ← mE_i (cy := cy) (b := b), wl_set] at hP1
  exact hP1
theorem pw_alen (hX : Ok X cc own mL rm) {a : Nat} {K : Int32 → Option α} (hd : decode cc pc = .ok (.arraylength, 1)) (h : (aN F a).bind K = some res) (kk : ∀ x, K x = some res → PW X kc ks F (pc + 1) lv (.int x :: st)) : PW X kc ks F pc lv (.ref a :: st) := by
  obtain ⟨x, hx0, h⟩ := Option.bind_eq_some_iff.mp h
  obtain ⟨t, n, r, h1, h2, rfl⟩ := aN_spec hx0
  obtain ⟨⟨p, l, e, R, s⟩, ⟨m, args, below, meth, c⟩, ⟨Q, D, cy⟩, ⟨b, n0, nL, sc⟩⟩ := X
  obtain ⟨hx, hb, hml, hown, hts, hK, hsz, hlk, hR, hN, hnL⟩ := hX
  intro hF H locs ls hP hS hl
  have ha := dom_l hF h1 h2
  have hlen : (mA b (n, r)).1 = n := by unfold mA; split <;> first | (next e => cases e; rfl) | rfl
  have hw := wl_at (cy := cy) (b := b) ha h1
  rcases (show t = 0 ∨ t = 1 ∨ t = 2 by omega) with rfl | rfl | rfl
  · exact va_alen hx hb hK hP a 0 (x := mA b (n, r)) hw rfl (by rw [hlen]) hd (kk _ h hF H locs ls hP hS hl)
  · exact va_alen hx hb hK hP a 1 (x := mA b (n, r)) hw rfl (by rw [hlen]) hd (kk _ h hF H locs ls hP hS hl)
  · exact va_alen hx hb hK hP a 2 (x := mA b (n, r)) hw rfl (by rw [hlen]) hd (kk _ h hF H locs ls hP hS hl)
/-- a row of references: the two cases of what is read -/
theorem pw_aald (hX : Ok X cc own mL rm) {a : Nat} {i : Int32} {K : Option Nat → Option α} (hd : decode cc pc = .ok (.aaload, 1)) (h : (aQ F a i).bind K = some res) (k0 : K none = some res → PW X kc ks F (pc + 1) lv (.null :: st)) (k1 : ∀ q, K (some q) = some res → PW X kc ks F (pc + 1) lv (.ref q :: st)) : PW X kc ks F pc lv (.int i :: .ref a :: st) := by
  obtain ⟨x, hx0, h⟩ := Option.bind_eq_some_iff.mp h
  obtain ⟨n, f, h1, h2, hxe⟩ := aQ_spec hx0
  obtain ⟨⟨p, l, e, R, s⟩, ⟨m, args, below, meth, c⟩, ⟨Q, D, cy⟩, ⟨b, n0, nL, sc⟩⟩ := X
  obtain ⟨hx, hb, hml, hown, hts, hK, hsz, hlk, hR, hN, hnL⟩ := hX
  intro hF H locs ls hP hS hl
  have hw := wl_at (cy := cy) (b := b) (dom_l hF h1 (by omega)) h1
  refine va_aldq hx hb hK hP a 2 hw rfl h2 hd ?_
  rw [← hxe]
  cases x with
  | none => exact k0 h hF H locs ls hP hS hl
  | some q => exact k1 q h hF H locs ls hP hS hl
theorem pw_aast (hX : Ok X cc own mL rm) {a v : Nat} {i : Int32} {K : Hp → Option α} (hd : decode cc pc = .ok (.aastore, 1)) (h : (sQ F a i v).bind K = some res) (kk : ∀ F1, K F1 = some res → PW X kc ks F1 (pc + 1) lv st) : PW X kc ks F pc lv (.ref v :: .int i :: .ref a :: st) := by
  obtain ⟨F1, hx0, h⟩ := Option.bind_eq_some_iff.mp h
  obtain ⟨n, f, h1, h2, ⟨fs, h3⟩, rfl⟩ := sQ_spec hx0
  obtain ⟨⟨p, l, e, R, s⟩, ⟨m, args, below, meth, c⟩, ⟨Q, D, cy⟩, ⟨b, n0, nL, sc⟩⟩ := X
  obtain ⟨hx, hb, hml, hown, hts, hK, hsz, hlk, hR, hN, hnL⟩ := hX
  intro hF H locs ls hP hS hl
  have ha := dom_l hF h1 (by omega)
  have hw := wl_at (cy := cy) (b := b) ha h1
  have hw2 := wl_at (cy := cy) (b := b) (dom_r hF h3) h3
  refine va_astq (r := (RX1, TX1, 14)) hx hb hK hP wl_D hS a 2 v 1 hw rfl hw2 rfl h2 hd (fun H1 locs1 hP1 _ hS1 => ?_)
  refine kk _ h (dom_up hF ha) H1 locs1 ls ?_ hS1 hl
  have he : va_up (fun i => (f i).map (fun q => b + q)) i.toNatClampNeg (some (b + v)) = fun j => (va_up f i.toNatClampNeg (some v) j).map (fun q => b + q) := by
    funext j
    by_cases hj : j = i.toNatClampNeg
    · subst hj; rw [va_up_self, va_up_self]; rfl
    · rw [va_up_ne _ _ hj, va_up_ne _ _ hj]
  rw [he, ← mE_q (cy := cy) (b := b), wl_set] at hP1
  exact hP1
end MEM
