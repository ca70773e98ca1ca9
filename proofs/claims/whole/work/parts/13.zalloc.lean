/-! making objects and rows; constructors -/
def rmk (d K S : Nat) : Room := { frames := d, cells := K, slots := S, locals := 40 * d }
/-- a link to a kind that can be made -/
def CL (own : String) (idx ci N : Nat) (fs : List Value) : Prop := ∃ (q : vw_C) (ty : Nat → FieldType), vwCl[ci]? = some q ∧ q.2.2 = N ∧ Cond.classLink own idx q.1 ∈ lw_g ∧ Cond.instantiable q.1 q.2.2 ∈ lw_g ∧ Cond.initialized q.1 ∈ lw_g ∧ (∀ w ∈ u_ws q.1 q.2.1 q.2.2, w ∈ lw_g) ∧ (∀ k, k < q.2.2 → parseFieldDescriptor (q.2.1 k).2.2.1 = some (ty k)) ∧ (∀ j, j < q.2.2 → defaultValue (ty j) = vp_V fs j) ∧ ∀ b, fs.map (mv b 0) = fs
def IL (own : String) (idx : Nat) (y : MethodName) (yb : ByteArray) (maxL : Nat) : Prop := ML own idx y yb maxL none 0 ∧ Cond.instanceMethod y ∈ lw_g ∧ y.name = "<init>"
def OL (own : String) (idx : Nat) : Prop := Cond.methodLink own idx Lib.objectInit ∈ lw_g ∧ Cond.instanceMethod Lib.objectInit ∈ lw_g ∧ Cond.code Lib.objectInit ⟨#[0xb1]⟩ 1 none ∈ lw_g
theorem new_at {D : va_G} {cy : Nat → ClassId} {b n q : Nat} {F : Hp} {e : va_E} {H1 : Heap} (hP : va_P D vwCl (wl cy b n F ++ [(q, e)]) H1) (hD : va_D (fun q : Nat => b ≤ q) (wl cy b n F ++ [(q, e)])) (hz : H1.size ≤ b + n + 1) : q = b + n := by
  have hl : (wl cy b n F ++ [(q, e)])[n]? = some (q, e) := by
    rw [List.getElem?_append_right (by rw [wl_len]; exact Nat.le_refl n), wl_len, Nat.sub_self]
    rfl
  have h1 : q < H1.size := (hP n _ hl).lt
  have h2 : b ≤ q := hD.2 n _ hl
  rcases Nat.lt_or_ge q (b + n) with h | h
  · have hk : q - b < n := by omega
    have hg : (wl cy b n F ++ [(q, e)])[q - b]? = some (b + (q - b), mE cy b (F (q - b))) := by
      rw [List.getElem?_append_left (by rw [wl_len]; exact hk), wl_get hk]
    have := hD.1 (q - b) n _ _ hg hl (by show b + (q - b) = q; omega)
    omega
  · omega
section ALLOC
variable {X : Cx} {cc : ByteArray} {own : String} {mL : Nat} {rm : Room} {kc ks : Nat} {F : Hp} {pc : Nat} {lv : List (Nat × Value)} {st : List Value} {n idx : Nat}
theorem pw_new (hX : Ok X cc own mL rm) (hn : X.2.2.2.2.1 = n) {ci N : Nat} {fs : List Value} (hd : decode cc pc = .ok (.new idx, 3)) (hL : CL own idx ci N fs) (p kc' ks' : Nat) (hp : p = n + kc) (h1 : kc' = kc + 1) (h2 : ks' = ks + N) (hr : kc' ≤ rm.cells ∧ ks' ≤ rm.slots)
    (kk : PW X kc' ks' (va_up F p (.inr (ci, fs))) (pc + 3) lv (.ref p :: st)) : PW X kc ks F pc lv st := by
  subst hp; subst h1; subst h2
  obtain ⟨⟨p, l, e, R, s⟩, ⟨m, args, below, meth, c⟩, ⟨Q, D, cy⟩, ⟨b, n0, nL, sc⟩⟩ := X
  obtain ⟨hx, hb, hml, hown, hts, hK, hsz, hlk, rfl, hN, hnL⟩ := hX
  change n0 = n at hn
  subst hn
  obtain ⟨q, ty, hq, hqN, hc1, hc2, hc3, hin, hty, hdf, hfs⟩ := hL
  subst hqN
  intro hF H locs ls hP hS hl
  refine va_new (C := q.1) (T := q.2.1) (N := q.2.2) (ci := ci) (fs := fs) hx hb hts hin ty hty hown (hts _ hc1) (hts _ hc2) (hts _ hc3) hK hP wl_D hS (fun z hz => by show b ≤ z; omega) hq hdf hr.1 hr.2 hd (fun a H1 hP1 hD1 hS1 => ?_)
  refine W_sz (fun hz => ?_)
  have ha : a = b + (n0 + kc) := new_at hP1 hD1 (by omega)
  subst ha
  refine kk (fun k hk => by rw [va_up_ne _ _ (by omega)]; exact hF k (by omega)) H1 locs ls ?_ hS1 hl
  have he : (Sum.inr (ci, fs) : va_E) = mE cy b (.inr (ci, fs)) := by rw [mE_r, hfs b]
  rw [he, wl_push] at hP1
  exact hP1
theorem pw_newa (hX : Ok X cc own mL rm) (hn : X.2.2.2.2.1 = n) {len : Int32} (hd : decode cc pc = .ok (.newarray .int, 2)) (hL : Cond.arrayClass .int ∈ lw_g) (N p kc' ks' : Nat) (hlen : ¬ len < 0) (hN : len.toNatClampNeg = N) (hb4 : N * 4 ≤ 536870912) (hp : p = n + kc) (h1 : kc' = kc + 1) (h2 : ks' = ks + N) (hr : kc' ≤ rm.cells ∧ ks' ≤ rm.slots)
    (kk : PW X kc' ks' (va_up F p (.inl (0, N, .inl (fun _ => 0)))) (pc + 2) lv (.ref p :: st)) : PW X kc ks F pc lv (.int len :: st) := by
  subst hp; subst h1; subst h2
  obtain ⟨⟨p, l, e, R, s⟩, ⟨m, args, below, meth, c⟩, ⟨Q, D, cy⟩, ⟨b, n0, nL, sc⟩⟩ := X
  obtain ⟨hx, hb, hml, hown, hts, hK, hsz, hlk, rfl, hN2, hnL⟩ := hX
  change n0 = n at hn
  subst hn
  intro hF H locs ls hP hS hl
  refine va_newa (atype := .int) (ty := .int) (a0 := (N, .inl (fun _ => 0))) (N' := N) hx hb (hts _ hL) rfl hK hP wl_D hS (fun z hz => by show b ≤ z; omega) (fun _ => rfl) hlen hN hb4 hr.1 hr.2 hd (fun a cA H1 hK1 hP1 hD1 hS1 => ?_)
  have hcA : cA = cy 0 := by
    have e1 := (hK1.2 3 (cA, .int) rfl).2
    have e2 := (hK1.2 0 (cy 0, .int) rfl).2
    exact Option.some.inj (e1.symm.trans e2)
  subst hcA
  refine W_sz (fun hz => ?_)
  have ha : a = b + (n0 + kc) := new_at hP1 hD1 (by omega)
  subst ha
  refine kk (fun k hk => by rw [va_up_ne _ _ (by omega)]; exact hF k (by omega)) H1 locs ls ?_ hS1 hl
  rw [← mE_i (cy := cy) (b := b), wl_push] at hP1
  exact hP1
theorem pw_newz (hX : Ok X cc own mL rm) (hn : X.2.2.2.2.1 = n) {len : Int32} (hd : decode cc pc = .ok (.newarray .boolean, 2)) (hL : Cond.arrayClass .boolean ∈ lw_g) (N p kc' ks' : Nat) (hlen : ¬ len < 0) (hN : len.toNatClampNeg = N) (hb4 : N * 1 ≤ 536870912) (hp : p = n + kc) (h1 : kc' = kc + 1) (h2 : ks' = ks + N) (hr : kc' ≤ rm.cells ∧ ks' ≤ rm.slots)
    (kk : PW X kc' ks' (va_up F p (.inl (1, N, .inl (fun _ => 0)))) (pc + 2) lv (.ref p :: st)) : PW X kc ks F pc lv (.int len :: st) := by
  subst hp; subst h1; subst h2
  obtain ⟨⟨p, l, e, R, s⟩, ⟨m, args, below, meth, c⟩, ⟨Q, D, cy⟩, ⟨b, n0, nL, sc⟩⟩ := X
  obtain ⟨hx, hb, hml, hown, hts, hK, hsz, hlk, rfl, hN2, hnL⟩ := hX
  change n0 = n at hn
  subst hn
  intro hF H locs ls hP hS hl
  refine va_newa (atype := .boolean) (ty := .boolean) (a0 := (N, .inl (fun _ => 0))) (N' := N) hx hb (hts _ hL) rfl hK hP wl_D hS (fun z hz => by show b ≤ z; omega) (fun _ => rfl) hlen hN hb4 hr.1 hr.2 hd (fun a cA H1 hK1 hP1 hD1 hS1 => ?_)
  have hcA : cA = cy 1 := by
    have e1 := (hK1.2 3 (cA, .boolean) rfl).2
    have e2 := (hK1.2 1 (cy 1, .boolean) rfl).2
    exact Option.some.inj (e1.symm.trans e2)
  subst hcA
  refine W_sz (fun hz => ?_)
  have ha : a = b + (n0 + kc) := new_at hP1 hD1 (by omega)
  subst ha
  refine kk (fun k hk => by rw [va_up_ne _ _ (by omega)]; exact hF k (by omega)) H1 locs ls ?_ hS1 hl
  rw [← mE_i (cy := cy) (b := b), wl_push] at hP1
  exact hP1
theorem pw_newq (hX : Ok X cc own mL rm) (hn : X.2.2.2.2.1 = n) {len : Int32} (hd : decode cc pc = .ok (.anewarray idx, 3)) (hL : Cond.classLink own idx RX1 ∈ lw_g) (N p kc' ks' : Nat) (hlen : ¬ len < 0) (hN : len.toNatClampNeg = N) (hb4 : N * 4 ≤ 536870912) (hp : p = n + kc) (h1 : kc' = kc + 1) (h2 : ks' = ks + N) (hr : kc' ≤ rm.cells ∧ ks' ≤ rm.slots)
    (kk : PW X kc' ks' (va_up F p (.inl (2, N, .inr (.inr (.inr (.inr (fun _ => none))))))) (pc + 3) lv (.ref p :: st)) : PW X kc ks F pc lv (.int len :: st) := by
  subst hp; subst h1; subst h2
  obtain ⟨⟨p, l, e, R, s⟩, ⟨m, args, below, meth, c⟩, ⟨Q, D, cy⟩, ⟨b, n0, nL, sc⟩⟩ := X
  obtain ⟨hx, hb, hml, hown, hts, hK, hsz, hlk, rfl, hN2, hnL⟩ := hX
  change n0 = n at hn
  subst hn
  intro hF H locs ls hP hS hl
  refine va_newq (C := RX1) (N' := N) hx hb hown (hts _ hL) hN2.2.2.2.2 hK hP wl_D hS (fun z hz => by show b ≤ z; omega) hlen hN hb4 hr.1 hr.2 hd (fun a cA H1 hK1 hP1 hD1 hS1 => ?_)
  have hcA : cA = cy 2 := by
    obtain ⟨k1, c1, -, -, -, e1⟩ := (hK1.2 3 (cA, .object RX1) rfl).2
    obtain ⟨k2, c2, -, -, -, e2⟩ := (hK1.2 2 (cy 2, .object RX1) rfl).2
    exact Option.some.inj (e1.symm.trans e2)
  subst hcA
  refine W_sz (fun hz => ?_)
  have ha : a = b + (n0 + kc) := new_at hP1 hD1 (by omega)
  subst ha
  refine kk (fun k hk => by rw [va_up_ne _ _ (by omega)]; exact hF k (by omega)) H1 locs ls ?_ hS1 hl
  have he : (Sum.inl (cy 2, N, Sum.inr (Sum.inr (Sum.inr (Sum.inr (fun _ => none))))) : va_E) = mE cy b (.inl (2, N, .inr (.inr (.inr (.inr (fun _ => none)))))) := rfl
  rw [he, wl_push] at hP1
  exact hP1
theorem pw_putF (hX : Ok X cc own mL rm) {ret : Option FieldType} {k1 k2 : Nat} {rv : Option Value} {F' : Hp} (hT : Rt X ret true k1 k2 rv F') {α : Type} {res : α} {a ci k v : Nat} {ty : FieldType} {K : Hp → Option α} (hd : decode cc pc = .ok (.putfield idx, 3)) (hl0 : FP own idx ci k ty true) (hn : ∀ z, narrow ty (.ref z) = .ref z) (hfit : ∀ z, fits ty (.ref z) = true) (h : (pV F a ci k (.ref v)).bind K = some res) (kk : ∀ F1, K F1 = some res → PW X kc ks F1 (pc + 3) lv st) : PW X kc ks F pc lv (.ref v :: .ref a :: st) := by
  obtain ⟨F1, hx, h⟩ := Option.bind_eq_some_iff.mp h
  obtain ⟨fs, hFa, hlen, rfl⟩ := pV_spec hx
  obtain ⟨⟨p, l, e, R, s⟩, ⟨m, args, below, meth, c⟩, ⟨Q, D, cy⟩, ⟨b, n0, nL, sc⟩⟩ := X
  obtain ⟨hx, hb, hml, hown, hts, hK, hsz, hlk, hR, hN, hnL⟩ := hX
  obtain ⟨-, -, hnm⟩ := hT
  intro hF H locs ls hP hS hl
  obtain ⟨q, ty0, hq, hk, hlink, hin, hty, hnm2, hfin, hpd, hdecl⟩ := hl0
  have ha := dom_r hF hFa
  refine va_putF (D := D) (ci := ci) (fs := fs.map (mv b 0)) (v := .ref (b + v)) (ty := ty) (C := q.1) (T := q.2.1) (N := q.2.2) hx hb hts hin ty0 hty hnm2 hown hK hP wl_D hS a (wl_at ha hFa) hq k hk (hts _ hlink) (fun _ h => h) hfin (hnm rfl) (hdecl rfl) hpd (hn _) (hfit _) (by rw [List.length_map]; exact hlen) hd (fun H1 locs1 hP1 _ hS1 => ?_)
  refine kk _ h (dom_up hF ha) H1 locs1 ls ?_ hS1 hl
  have he : (fs.map (mv b 0)).set k (.ref (b + v)) = (fs.set k (.ref v)).map (mv b 0) := by rw [List.map_set]; rfl
  rw [he, ← mE_r (cy := cy), wl_set] at hP1
  exact hP1
theorem pw_obj (hX : Ok X cc own mL rm) {a : Nat} (hd : decode cc pc = .ok (.invokespecial idx, 3)) (hL : OL own idx) (h1 : 1 ≤ rm.frames) (h2 : 20 ≤ rm.locals) (hst : (st.map fun v => v.category).sum ≤ 8) (kk : PW X kc ks F (pc + 3) lv st) : PW X kc ks F pc lv (.ref a :: st) := by
  obtain ⟨⟨p, l, e, R, s⟩, ⟨m, args, below, meth, c⟩, ⟨Q, D, cy⟩, ⟨b, n0, nL, sc⟩⟩ := X
  obtain ⟨hx, hb, hml, hown, hts, hK, hsz, hlk, rfl, hN, hnL⟩ := hX
  intro hF H locs ls hP hS hl
  refine W.objInit hx hb hown (hts _ hL.1) (hts _ hL.2.1) (hts _ hL.2.2) rfl (by rw [hml]; exact hl.1) rfl hd h1 ?_ (kk hF H locs ls hP hS hl)
  have := lv_room (m := m) (pc := pc) (ls := ls) (rest := st.map (mv b sc)) (st := st.map (mv b sc)) (by rw [mv_cats]; exact hst)
  exact Nat.le_trans (Nat.add_le_add_right this 12) h2
theorem pw_runI (hX : Ok X cc own mL rm) (hn : X.2.2.2.2.1 = n) {y : MethodName} {yb : ByteArray} {maxL : Nat} {α : Type} {res : α} {d K S a : Nat} (hd : decode cc pc = .ok (.invokespecial idx, 3)) (hL : IL own idx y yb maxL) {G : Option Hp} {Kf : Hp → Option α} (h : G.bind Kf = some res) (m1 kc' ks' : Nat) (hm1 : m1 = n + kc) (e1 : kc' = kc + K) (e2 : ks' = ks + S) (hM : ∀ F1, G = some F1 → CT y yb maxL none (rmk d K S) m1 F [.ref a] none F1) (hr : d + 1 ≤ rm.frames ∧ 8 + (maxL + 11) + 40 * d ≤ rm.locals) (hrc : kc' ≤ rm.cells ∧ ks' ≤ rm.slots) (hst : (st.map fun v => v.category).sum ≤ 8)
    (kk : ∀ F1, Kf F1 = some res → PW X kc' ks' F1 (pc + 3) lv st) : PW X kc ks F pc lv (.ref a :: st) := by
  subst hm1; subst e1; subst e2
  obtain ⟨F1, hG, h⟩ := Option.bind_eq_some_iff.mp h
  have hM := hM F1 hG
  have kk := kk F1 h
  obtain ⟨⟨p, l, e, R, s⟩, ⟨m, args, below, meth, c⟩, ⟨Q, D, cy⟩, ⟨b, n0, nL, sc⟩⟩ := X
  obtain ⟨hx, hb, hml, hown, hts, hK, hsz, hlk, rfl, hN, hnL⟩ := hX
  change n0 = n at hn
  subst hn
  intro hF H locs ls hP hS hl
  refine W_sz (fun hH => ?_)
  obtain ⟨⟨h1, h2, h3, h4, h5, h6⟩, h7, h8⟩ := hL
  have hsize : H.size = b + (n0 + kc) := by
    have := wl_size hP (by have := hS.1; omega)
    omega
  refine W_call (mc := K) (ms := S) (rest := st.map (mv b sc)) (n := n0 + kc + K) (rv := none) (F1 := F1) (D := D) (cy := cy) (a := [Value.ref (b + a)].toArray) (va_runI (b := b + a) (As := []) ⟨hx, hb, hml, hown, hts⟩ (hM l D cy b) ⟨callB_of (n := 0) hts (tbl_in h2) rfl rfl rfl (hts _ h3) (hts _ h1) ⟨h4, h5, h6⟩ hr, h8, hts _ h7⟩ ⟨gPc_blind D cy b (n0 + kc) F _, fun U hU hW => ⟨rfl, by rw [hU]; exact hsize, by rw [hU]; exact hP, va_K.moved hW.alike hK, hN.warm hW, hF⟩⟩ rfl rfl (hl.1.trans rfl) rfl (lv_room (by rw [mv_cats]; exact hst)) hd hrc) hS (fun H1 locs1 hP1 hS1 hd1 => ?_)
  exact kk (by rw [← Nat.add_assoc]; exact hd1) H1 locs1 ls (by rw [← Nat.add_assoc]; exact hP1) hS1 hl
end ALLOC
