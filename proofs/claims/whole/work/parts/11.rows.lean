def jrem (x y : Int32) : Int32 := x - x / y * y
def jreml (x y : Int64) : Int64 := x - x / y * y
section ROWS
variable {X : Cx} {cc : ByteArray} {own : String} {mL : Nat} {rm : Room} {kc ks : Nat} {F : Hp} {pc : Nat} {lv : List (Nat × Value)} {st : List Value} {α : Type} {res : α}
theorem pw_iadd (hX : Ok X cc own mL rm) {x y : Int32} (hd : decode cc pc = .ok (.iadd, 1)) (k : PW X kc ks F (pc + 1) lv (.int (x + y) :: st)) : PW X kc ks F pc lv (.int y :: .int x :: st) := by
  obtain ⟨⟨p, l, e, R, s⟩, ⟨m, args, below, meth, c⟩, ⟨Q, D, cy⟩, ⟨b, n0, nL, sc⟩⟩ := X
  obtain ⟨hx, hb, hml, hown, hts, hK, hsz, hlk, hR, hN, hnL⟩ := hX
  intro hF H locs ls hP hS hl
  exact lv_iadd hx hb hd (k hF H locs ls hP hS hl)
theorem pw_isub (hX : Ok X cc own mL rm) {x y : Int32} (hd : decode cc pc = .ok (.isub, 1)) (k : PW X kc ks F (pc + 1) lv (.int (x - y) :: st)) : PW X kc ks F pc lv (.int y :: .int x :: st) := by
  obtain ⟨⟨p, l, e, R, s⟩, ⟨m, args, below, meth, c⟩, ⟨Q, D, cy⟩, ⟨b, n0, nL, sc⟩⟩ := X
  obtain ⟨hx, hb, hml, hown, hts, hK, hsz, hlk, hR, hN, hnL⟩ := hX
  intro hF H locs ls hP hS hl
  exact lv_isub hx hb hd (k hF H locs ls hP hS hl)
theorem pw_imul (hX : Ok X cc own mL rm) {x y : Int32} (hd : decode cc pc = .ok (.imul, 1)) (k : PW X kc ks F (pc + 1) lv (.int (x * y) :: st)) : PW X kc ks F pc lv (.int y :: .int x :: st) := by
  obtain ⟨⟨p, l, e, R, s⟩, ⟨m, args, below, meth, c⟩, ⟨Q, D, cy⟩, ⟨b, n0, nL, sc⟩⟩ := X
  obtain ⟨hx, hb, hml, hown, hts, hK, hsz, hlk, hR, hN, hnL⟩ := hX
  intro hF H locs ls hP hS hl
  exact lv_imul hx hb hd (k hF H locs ls hP hS hl)
theorem pw_iand (hX : Ok X cc own mL rm) {x y : Int32} (hd : decode cc pc = .ok (.iand, 1)) (k : PW X kc ks F (pc + 1) lv (.int (x &&& y) :: st)) : PW X kc ks F pc lv (.int y :: .int x :: st) := by
  obtain ⟨⟨p, l, e, R, s⟩, ⟨m, args, below, meth, c⟩, ⟨Q, D, cy⟩, ⟨b, n0, nL, sc⟩⟩ := X
  obtain ⟨hx, hb, hml, hown, hts, hK, hsz, hlk, hR, hN, hnL⟩ := hX
  intro hF H locs ls hP hS hl
  exact lv_iand hx hb hd (k hF H locs ls hP hS hl)
theorem pw_ior (hX : Ok X cc own mL rm) {x y : Int32} (hd : decode cc pc = .ok (.ior, 1)) (k : PW X kc ks F (pc + 1) lv (.int (x ||| y) :: st)) : PW X kc ks F pc lv (.int y :: .int x :: st) := by
  obtain ⟨⟨p, l, e, R, s⟩, ⟨m, args, below, meth, c⟩, ⟨Q, D, cy⟩, ⟨b, n0, nL, sc⟩⟩ := X
  obtain ⟨hx, hb, hml, hown, hts, hK, hsz, hlk, hR, hN, hnL⟩ := hX
  intro hF H locs ls hP hS hl
  exact lv_ior hx hb hd (k hF H locs ls hP hS hl)
theorem pw_ishl (hX : Ok X cc own mL rm) {x y : Int32} (hd : decode cc pc = .ok (.ishl, 1)) (k : PW X kc ks F (pc + 1) lv (.int (x <<< (y &&& 31)) :: st)) : PW X kc ks F pc lv (.int y :: .int x :: st) := by
  obtain ⟨⟨p, l, e, R, s⟩, ⟨m, args, below, meth, c⟩, ⟨Q, D, cy⟩, ⟨b, n0, nL, sc⟩⟩ := X
  obtain ⟨hx, hb, hml, hown, hts, hK, hsz, hlk, hR, hN, hnL⟩ := hX
  intro hF H locs ls hP hS hl
  exact lv_ishl hx hb hd (k hF H locs ls hP hS hl)
theorem pw_ishr (hX : Ok X cc own mL rm) {x y : Int32} (hd : decode cc pc = .ok (.ishr, 1)) (k : PW X kc ks F (pc + 1) lv (.int (x >>> (y &&& 31)) :: st)) : PW X kc ks F pc lv (.int y :: .int x :: st) := by
  obtain ⟨⟨p, l, e, R, s⟩, ⟨m, args, below, meth, c⟩, ⟨Q, D, cy⟩, ⟨b, n0, nL, sc⟩⟩ := X
  obtain ⟨hx, hb, hml, hown, hts, hK, hsz, hlk, hR, hN, hnL⟩ := hX
  intro hF H locs ls hP hS hl
  exact lv_ishr hx hb hd (k hF H locs ls hP hS hl)
theorem pw_iushr (hX : Ok X cc own mL rm) {x y : Int32} (hd : decode cc pc = .ok (.iushr, 1)) (k : PW X kc ks F (pc + 1) lv (.int ((x.toUInt32 >>> (y.toUInt32 &&& Int32.toUInt32 31)).toInt32) :: st)) : PW X kc ks F pc lv (.int y :: .int x :: st) := by
  obtain ⟨⟨p, l, e, R, s⟩, ⟨m, args, below, meth, c⟩, ⟨Q, D, cy⟩, ⟨b, n0, nL, sc⟩⟩ := X
  obtain ⟨hx, hb, hml, hown, hts, hK, hsz, hlk, hR, hN, hnL⟩ := hX
  intro hF H locs ls hP hS hl
  exact lv_iushr hx hb hd rfl (k hF H locs ls hP hS hl)
theorem pw_ineg (hX : Ok X cc own mL rm) {x : Int32} (hd : decode cc pc = .ok (.ineg, 1)) (k : PW X kc ks F (pc + 1) lv (.int (-x) :: st)) : PW X kc ks F pc lv (.int x :: st) := by
  obtain ⟨⟨p, l, e, R, s⟩, ⟨m, args, below, meth, c⟩, ⟨Q, D, cy⟩, ⟨b, n0, nL, sc⟩⟩ := X
  obtain ⟨hx, hb, hml, hown, hts, hK, hsz, hlk, hR, hN, hnL⟩ := hX
  intro hF H locs ls hP hS hl
  exact lv_ineg hx hb hd (k hF H locs ls hP hS hl)
theorem pw_ladd (hX : Ok X cc own mL rm) {x y : Int64} (hd : decode cc pc = .ok (.ladd, 1)) (k : PW X kc ks F (pc + 1) lv (.long (x + y) :: st)) : PW X kc ks F pc lv (.long y :: .long x :: st) := by
  obtain ⟨⟨p, l, e, R, s⟩, ⟨m, args, below, meth, c⟩, ⟨Q, D, cy⟩, ⟨b, n0, nL, sc⟩⟩ := X
  obtain ⟨hx, hb, hml, hown, hts, hK, hsz, hlk, hR, hN, hnL⟩ := hX
  intro hF H locs ls hP hS hl
  exact lv_ladd hx hb hd (k hF H locs ls hP hS hl)
theorem pw_lsub (hX : Ok X cc own mL rm) {x y : Int64} (hd : decode cc pc = .ok (.lsub, 1)) (k : PW X kc ks F (pc + 1) lv (.long (x - y) :: st)) : PW X kc ks F pc lv (.long y :: .long x :: st) := by
  obtain ⟨⟨p, l, e, R, s⟩, ⟨m, args, below, meth, c⟩, ⟨Q, D, cy⟩, ⟨b, n0, nL, sc⟩⟩ := X
  obtain ⟨hx, hb, hml, hown, hts, hK, hsz, hlk, hR, hN, hnL⟩ := hX
  intro hF H locs ls hP hS hl
  exact lv_lsub hx hb hd (k hF H locs ls hP hS hl)
theorem pw_lmul (hX : Ok X cc own mL rm) {x y : Int64} (hd : decode cc pc = .ok (.lmul, 1)) (k : PW X kc ks F (pc + 1) lv (.long (x * y) :: st)) : PW X kc ks F pc lv (.long y :: .long x :: st) := by
  obtain ⟨⟨p, l, e, R, s⟩, ⟨m, args, below, meth, c⟩, ⟨Q, D, cy⟩, ⟨b, n0, nL, sc⟩⟩ := X
  obtain ⟨hx, hb, hml, hown, hts, hK, hsz, hlk, hR, hN, hnL⟩ := hX
  intro hF H locs ls hP hS hl
  exact lv_lmul hx hb hd (k hF H locs ls hP hS hl)
theorem pw_land (hX : Ok X cc own mL rm) {x y : Int64} (hd : decode cc pc = .ok (.land, 1)) (k : PW X kc ks F (pc + 1) lv (.long (x &&& y) :: st)) : PW X kc ks F pc lv (.long y :: .long x :: st) := by
  obtain ⟨⟨p, l, e, R, s⟩, ⟨m, args, below, meth, c⟩, ⟨Q, D, cy⟩, ⟨b, n0, nL, sc⟩⟩ := X
  obtain ⟨hx, hb, hml, hown, hts, hK, hsz, hlk, hR, hN, hnL⟩ := hX
  intro hF H locs ls hP hS hl
  exact lv_land hx hb hd (k hF H locs ls hP hS hl)
theorem pw_lor (hX : Ok X cc own mL rm) {x y : Int64} (hd : decode cc pc = .ok (.lor, 1)) (k : PW X kc ks F (pc + 1) lv (.long (x ||| y) :: st)) : PW X kc ks F pc lv (.long y :: .long x :: st) := by
  obtain ⟨⟨p, l, e, R, s⟩, ⟨m, args, below, meth, c⟩, ⟨Q, D, cy⟩, ⟨b, n0, nL, sc⟩⟩ := X
  obtain ⟨hx, hb, hml, hown, hts, hK, hsz, hlk, hR, hN, hnL⟩ := hX
  intro hF H locs ls hP hS hl
  exact lv_lor hx hb hd (k hF H locs ls hP hS hl)
theorem pw_lshl (hX : Ok X cc own mL rm) {x : Int64} {y : Int32} (hd : decode cc pc = .ok (.lshl, 1)) (k : PW X kc ks F (pc + 1) lv (.long (x <<< (y.toInt64 &&& 63)) :: st)) : PW X kc ks F pc lv (.int y :: .long x :: st) := by
  obtain ⟨⟨p, l, e, R, s⟩, ⟨m, args, below, meth, c⟩, ⟨Q, D, cy⟩, ⟨b, n0, nL, sc⟩⟩ := X
  obtain ⟨hx, hb, hml, hown, hts, hK, hsz, hlk, hR, hN, hnL⟩ := hX
  intro hF H locs ls hP hS hl
  exact lv_lshl hx hb hd rfl (k hF H locs ls hP hS hl)
theorem pw_lushr (hX : Ok X cc own mL rm) {x : Int64} {y : Int32} (hd : decode cc pc = .ok (.lushr, 1)) (k : PW X kc ks F (pc + 1) lv (.long ((x.toUInt64 >>> (y.toInt64.toUInt64 &&& Int64.toUInt64 63)).toInt64) :: st)) : PW X kc ks F pc lv (.int y :: .long x :: st) := by
  obtain ⟨⟨p, l, e, R, s⟩, ⟨m, args, below, meth, c⟩, ⟨Q, D, cy⟩, ⟨b, n0, nL, sc⟩⟩ := X
  obtain ⟨hx, hb, hml, hown, hts, hK, hsz, hlk, hR, hN, hnL⟩ := hX
  intro hF H locs ls hP hS hl
  exact lv_lushr hx hb hd rfl (k hF H locs ls hP hS hl)
theorem pw_i2l (hX : Ok X cc own mL rm) {x : Int32} (hd : decode cc pc = .ok (.i2l, 1)) (k : PW X kc ks F (pc + 1) lv (.long (x.toInt64) :: st)) : PW X kc ks F pc lv (.int x :: st) := by
  obtain ⟨⟨p, l, e, R, s⟩, ⟨m, args, below, meth, c⟩, ⟨Q, D, cy⟩, ⟨b, n0, nL, sc⟩⟩ := X
  obtain ⟨hx, hb, hml, hown, hts, hK, hsz, hlk, hR, hN, hnL⟩ := hX
  intro hF H locs ls hP hS hl
  exact lv_i2l hx hb hd rfl (k hF H locs ls hP hS hl)
theorem pw_l2i (hX : Ok X cc own mL rm) {x : Int64} (hd : decode cc pc = .ok (.l2i, 1)) (k : PW X kc ks F (pc + 1) lv (.int (x.toInt32) :: st)) : PW X kc ks F pc lv (.long x :: st) := by
  obtain ⟨⟨p, l, e, R, s⟩, ⟨m, args, below, meth, c⟩, ⟨Q, D, cy⟩, ⟨b, n0, nL, sc⟩⟩ := X
  obtain ⟨hx, hb, hml, hown, hts, hK, hsz, hlk, hR, hN, hnL⟩ := hX
  intro hF H locs ls hP hS hl
  exact lv_l2i hx hb hd rfl (k hF H locs ls hP hS hl)
theorem pw_lcmp (hX : Ok X cc own mL rm) {x y : Int64} (hd : decode cc pc = .ok (.lcmp, 1)) (k : PW X kc ks F (pc + 1) lv (.int (lg_cmp x y) :: st)) : PW X kc ks F pc lv (.long y :: .long x :: st) := by
  obtain ⟨⟨p, l, e, R, s⟩, ⟨m, args, below, meth, c⟩, ⟨Q, D, cy⟩, ⟨b, n0, nL, sc⟩⟩ := X
  obtain ⟨hx, hb, hml, hown, hts, hK, hsz, hlk, hR, hN, hnL⟩ := hX
  intro hF H locs ls hP hS hl
  exact W.lcmp hx hb hd (k hF H locs ls hP hS hl)
theorem pw_idivc (hX : Ok X cc own mL rm) {x y : Int32} (hd : decode cc pc = .ok (.idiv, 1)) (hne : ¬ y = 0) (k : PW X kc ks F (pc + 1) lv (.int (x / y) :: st)) : PW X kc ks F pc lv (.int y :: .int x :: st) := by
  obtain ⟨⟨p, l, e, R, s⟩, ⟨m, args, below, meth, c⟩, ⟨Q, D, cy⟩, ⟨b, n0, nL, sc⟩⟩ := X
  obtain ⟨hx, hb, hml, hown, hts, hK, hsz, hlk, hR, hN, hnL⟩ := hX
  intro hF H locs ls hP hS hl
  exact lv_idiv hx hb hd hne (k hF H locs ls hP hS hl)
theorem pw_idiv (hX : Ok X cc own mL rm) {x y : Int32} {A : Option α} (hd : decode cc pc = .ok (.idiv, 1)) (h : (if y = 0 then none else A) = some res) (k : A = some res → PW X kc ks F (pc + 1) lv (.int (x / y) :: st)) : PW X kc ks F pc lv (.int y :: .int x :: st) := by
  by_cases hy : y = 0
  · rw [if_pos hy] at h; cases h
  · rw [if_neg hy] at h; exact pw_idivc hX hd hy (k h)
theorem pw_iremc (hX : Ok X cc own mL rm) {x y : Int32} (hd : decode cc pc = .ok (.irem, 1)) (hne : ¬ y = 0) (k : PW X kc ks F (pc + 1) lv (.int (jrem x y) :: st)) : PW X kc ks F pc lv (.int y :: .int x :: st) := by
  obtain ⟨⟨p, l, e, R, s⟩, ⟨m, args, below, meth, c⟩, ⟨Q, D, cy⟩, ⟨b, n0, nL, sc⟩⟩ := X
  obtain ⟨hx, hb, hml, hown, hts, hK, hsz, hlk, hR, hN, hnL⟩ := hX
  intro hF H locs ls hP hS hl
  exact lv_irem hx hb hd hne (k hF H locs ls hP hS hl)
theorem pw_irem (hX : Ok X cc own mL rm) {x y : Int32} {A : Option α} (hd : decode cc pc = .ok (.irem, 1)) (h : (if y = 0 then none else A) = some res) (k : A = some res → PW X kc ks F (pc + 1) lv (.int (jrem x y) :: st)) : PW X kc ks F pc lv (.int y :: .int x :: st) := by
  by_cases hy : y = 0
  · rw [if_pos hy] at h; cases h
  · rw [if_neg hy] at h; exact pw_iremc hX hd hy (k h)
theorem pw_ldivc (hX : Ok X cc own mL rm) {x y : Int64} (hd : decode cc pc = .ok (.ldiv, 1)) (hne : ¬ y = 0) (k : PW X kc ks F (pc + 1) lv (.long (x / y) :: st)) : PW X kc ks F pc lv (.long y :: .long x :: st) := by
  obtain ⟨⟨p, l, e, R, s⟩, ⟨m, args, below, meth, c⟩, ⟨Q, D, cy⟩, ⟨b, n0, nL, sc⟩⟩ := X
  obtain ⟨hx, hb, hml, hown, hts, hK, hsz, hlk, hR, hN, hnL⟩ := hX
  intro hF H locs ls hP hS hl
  exact lv_ldiv hx hb hd hne (k hF H locs ls hP hS hl)
theorem pw_ldiv (hX : Ok X cc own mL rm) {x y : Int64} {A : Option α} (hd : decode cc pc = .ok (.ldiv, 1)) (h : (if y = 0 then none else A) = some res) (k : A = some res → PW X kc ks F (pc + 1) lv (.long (x / y) :: st)) : PW X kc ks F pc lv (.long y :: .long x :: st) := by
  by_cases hy : y = 0
  · rw [if_pos hy] at h; cases h
  · rw [if_neg hy] at h; exact pw_ldivc hX hd hy (k h)
theorem pw_lremc (hX : Ok X cc own mL rm) {x y : Int64} (hd : decode cc pc = .ok (.lrem, 1)) (hne : ¬ y = 0) (k : PW X kc ks F (pc + 1) lv (.long (jreml x y) :: st)) : PW X kc ks F pc lv (.long y :: .long x :: st) := by
  obtain ⟨⟨p, l, e, R, s⟩, ⟨m, args, below, meth, c⟩, ⟨Q, D, cy⟩, ⟨b, n0, nL, sc⟩⟩ := X
  obtain ⟨hx, hb, hml, hown, hts, hK, hsz, hlk, hR, hN, hnL⟩ := hX
  intro hF H locs ls hP hS hl
  exact lv_lrem hx hb hd hne (k hF H locs ls hP hS hl)
theorem pw_lrem (hX : Ok X cc own mL rm) {x y : Int64} {A : Option α} (hd : decode cc pc = .ok (.lrem, 1)) (h : (if y = 0 then none else A) = some res) (k : A = some res → PW X kc ks F (pc + 1) lv (.long (jreml x y) :: st)) : PW X kc ks F pc lv (.long y :: .long x :: st) := by
  by_cases hy : y = 0
  · rw [if_pos hy] at h; cases h
  · rw [if_neg hy] at h; exact pw_lremc hX hd hy (k h)
theorem pw_iconst (hX : Ok X cc own mL rm) {n : Int} {v : Int32} (hd : decode cc pc = .ok (.iconst n, 1)) (hv : Int32.ofInt n = v) (k : PW X kc ks F (pc + 1) lv (.int v :: st)) : PW X kc ks F pc lv (st) := by
  obtain ⟨⟨p, l, e, R, s⟩, ⟨m, args, below, meth, c⟩, ⟨Q, D, cy⟩, ⟨b, n0, nL, sc⟩⟩ := X
  obtain ⟨hx, hb, hml, hown, hts, hK, hsz, hlk, hR, hN, hnL⟩ := hX
  intro hF H locs ls hP hS hl
  exact lv_iconst hx hb hd hv (k hF H locs ls hP hS hl)
theorem pw_bipush (hX : Ok X cc own mL rm) {n : Int} {v : Int32} (hd : decode cc pc = .ok (.bipush n, 2)) (hv : (Int8.ofInt n).toInt32 = v) (k : PW X kc ks F (pc + 2) lv (.int v :: st)) : PW X kc ks F pc lv (st) := by
  obtain ⟨⟨p, l, e, R, s⟩, ⟨m, args, below, meth, c⟩, ⟨Q, D, cy⟩, ⟨b, n0, nL, sc⟩⟩ := X
  obtain ⟨hx, hb, hml, hown, hts, hK, hsz, hlk, hR, hN, hnL⟩ := hX
  intro hF H locs ls hP hS hl
  exact lv_bipush hx hb hd hv (k hF H locs ls hP hS hl)
theorem pw_sipush (hX : Ok X cc own mL rm) {n : Int} {v : Int32} (hd : decode cc pc = .ok (.sipush n, 3)) (hv : (Int16.ofInt n).toInt32 = v) (k : PW X kc ks F (pc + 3) lv (.int v :: st)) : PW X kc ks F pc lv (st) := by
  obtain ⟨⟨p, l, e, R, s⟩, ⟨m, args, below, meth, c⟩, ⟨Q, D, cy⟩, ⟨b, n0, nL, sc⟩⟩ := X
  obtain ⟨hx, hb, hml, hown, hts, hK, hsz, hlk, hR, hN, hnL⟩ := hX
  intro hF H locs ls hP hS hl
  exact lv_sipush hx hb hd hv (k hF H locs ls hP hS hl)
theorem pw_lconst (hX : Ok X cc own mL rm) {n : Fin 2} {v : Int64} (hd : decode cc pc = .ok (.lconst n, 1)) (hv : Int64.ofNat (n : Nat) = v) (k : PW X kc ks F (pc + 1) lv (.long v :: st)) : PW X kc ks F pc lv (st) := by
  obtain ⟨⟨p, l, e, R, s⟩, ⟨m, args, below, meth, c⟩, ⟨Q, D, cy⟩, ⟨b, n0, nL, sc⟩⟩ := X
  obtain ⟨hx, hb, hml, hown, hts, hK, hsz, hlk, hR, hN, hnL⟩ := hX
  intro hF H locs ls hP hS hl
  exact lv_lconst hx hb hd hv (k hF H locs ls hP hS hl)
theorem pw_ldc2 (hX : Ok X cc own mL rm) {i : Nat} {v : Int64} (hd : decode cc pc = .ok (.ldc2_w i, 3)) (hw : Cond.constantLong own i v ∈ lw_g) (k : PW X kc ks F (pc + 3) lv (.long v :: st)) : PW X kc ks F pc lv (st) := by
  obtain ⟨⟨p, l, e, R, s⟩, ⟨m, args, below, meth, c⟩, ⟨Q, D, cy⟩, ⟨b, n0, nL, sc⟩⟩ := X
  obtain ⟨hx, hb, hml, hown, hts, hK, hsz, hlk, hR, hN, hnL⟩ := hX
  intro hF H locs ls hP hS hl
  exact lv_ldc2 hx hb hown (hts _ hw) hd (k hF H locs ls hP hS hl)
theorem pw_ldcw (hX : Ok X cc own mL rm) {i : Nat} {v : Int32} (hd : decode cc pc = .ok (.ldc_w i, 3)) (hw : Cond.constant own i v ∈ lw_g) (k : PW X kc ks F (pc + 3) lv (.int v :: st)) : PW X kc ks F pc lv (st) := by
  obtain ⟨⟨p, l, e, R, s⟩, ⟨m, args, below, meth, c⟩, ⟨Q, D, cy⟩, ⟨b, n0, nL, sc⟩⟩ := X
  obtain ⟨hx, hb, hml, hown, hts, hK, hsz, hlk, hR, hN, hnL⟩ := hX
  intro hF H locs ls hP hS hl
  exact lv_ldcw hx hb hown (hts _ hw) hd (k hF H locs ls hP hS hl)
theorem pw_null (hX : Ok X cc own mL rm) (hd : decode cc pc = .ok (.aconst_null, 1)) (k : PW X kc ks F (pc + 1) lv (.null :: st)) : PW X kc ks F pc lv (st) := by
  obtain ⟨⟨p, l, e, R, s⟩, ⟨m, args, below, meth, c⟩, ⟨Q, D, cy⟩, ⟨b, n0, nL, sc⟩⟩ := X
  obtain ⟨hx, hb, hml, hown, hts, hK, hsz, hlk, hR, hN, hnL⟩ := hX
  intro hF H locs ls hP hS hl
  exact lv_null hx hb hd (k hF H locs ls hP hS hl)
theorem lvm_at {b sc : Nat} {lv : List (Nat × Value)} {k i : Nat} {v : Value} (h : lv[k]? = some (i, v)) : (lv.map (fun q => (q.1, mv b sc q.2)))[k]? = some (i, mv b sc v) := by rw [List.getElem?_map, h]; rfl
theorem pw_iload_n (hX : Ok X cc own mL rm) {j : Fin 4} {x : Int32} (hd : decode cc pc = .ok (.iload_n j, 1)) (k : Nat) (hk : lv[k]? = some ((j : Nat), .int x)) (kk : PW X kc ks F (pc + 1) lv (.int x :: st)) : PW X kc ks F pc lv (st) := by
  obtain ⟨⟨p, l, e, R, s⟩, ⟨m, args, below, meth, c⟩, ⟨Q, D, cy⟩, ⟨b, n0, nL, sc⟩⟩ := X
  obtain ⟨hx, hb, hml, hown, hts, hK, hsz, hlk, hR, hN, hnL⟩ := hX
  intro hF H locs ls hP hS hl
  exact lv_iload_n hx hb hd rfl (lv_at hl k (lvm_at hk)) (kk hF H locs ls hP hS hl)
theorem pw_iload (hX : Ok X cc own mL rm) {j : Nat} {x : Int32} (hd : decode cc pc = .ok (.iload j, 2)) (k : Nat) (hk : lv[k]? = some (j, .int x)) (kk : PW X kc ks F (pc + 2) lv (.int x :: st)) : PW X kc ks F pc lv (st) := by
  obtain ⟨⟨p, l, e, R, s⟩, ⟨m, args, below, meth, c⟩, ⟨Q, D, cy⟩, ⟨b, n0, nL, sc⟩⟩ := X
  obtain ⟨hx, hb, hml, hown, hts, hK, hsz, hlk, hR, hN, hnL⟩ := hX
  intro hF H locs ls hP hS hl
  exact lv_iload hx hb hd (lv_at hl k (lvm_at hk)) (kk hF H locs ls hP hS hl)
theorem pw_lload_n (hX : Ok X cc own mL rm) {j : Fin 4} {x : Int64} (hd : decode cc pc = .ok (.lload_n j, 1)) (k : Nat) (hk : lv[k]? = some ((j : Nat), .long x)) (kk : PW X kc ks F (pc + 1) lv (.long x :: st)) : PW X kc ks F pc lv (st) := by
  obtain ⟨⟨p, l, e, R, s⟩, ⟨m, args, below, meth, c⟩, ⟨Q, D, cy⟩, ⟨b, n0, nL, sc⟩⟩ := X
  obtain ⟨hx, hb, hml, hown, hts, hK, hsz, hlk, hR, hN, hnL⟩ := hX
  intro hF H locs ls hP hS hl
  exact lv_lload_n hx hb hd rfl (lv_at hl k (lvm_at hk)) (kk hF H locs ls hP hS hl)
theorem pw_lload (hX : Ok X cc own mL rm) {j : Nat} {x : Int64} (hd : decode cc pc = .ok (.lload j, 2)) (k : Nat) (hk : lv[k]? = some (j, .long x)) (kk : PW X kc ks F (pc + 2) lv (.long x :: st)) : PW X kc ks F pc lv (st) := by
  obtain ⟨⟨p, l, e, R, s⟩, ⟨m, args, below, meth, c⟩, ⟨Q, D, cy⟩, ⟨b, n0, nL, sc⟩⟩ := X
  obtain ⟨hx, hb, hml, hown, hts, hK, hsz, hlk, hR, hN, hnL⟩ := hX
  intro hF H locs ls hP hS hl
  exact lv_lload hx hb hd (lv_at hl k (lvm_at hk)) (kk hF H locs ls hP hS hl)
theorem pw_aload_n (hX : Ok X cc own mL rm) {j : Fin 4} {x : Nat} (hd : decode cc pc = .ok (.aload_n j, 1)) (k : Nat) (hk : lv[k]? = some ((j : Nat), .ref x)) (kk : PW X kc ks F (pc + 1) lv (.ref x :: st)) : PW X kc ks F pc lv (st) := by
  obtain ⟨⟨p, l, e, R, s⟩, ⟨m, args, below, meth, c⟩, ⟨Q, D, cy⟩, ⟨b, n0, nL, sc⟩⟩ := X
  obtain ⟨hx, hb, hml, hown, hts, hK, hsz, hlk, hR, hN, hnL⟩ := hX
  intro hF H locs ls hP hS hl
  exact lv_aload_n hx hb hd rfl (lv_at hl k (lvm_at hk)) (kk hF H locs ls hP hS hl)
theorem pw_aload (hX : Ok X cc own mL rm) {j : Nat} {x : Nat} (hd : decode cc pc = .ok (.aload j, 2)) (k : Nat) (hk : lv[k]? = some (j, .ref x)) (kk : PW X kc ks F (pc + 2) lv (.ref x :: st)) : PW X kc ks F pc lv (st) := by
  obtain ⟨⟨p, l, e, R, s⟩, ⟨m, args, below, meth, c⟩, ⟨Q, D, cy⟩, ⟨b, n0, nL, sc⟩⟩ := X
  obtain ⟨hx, hb, hml, hown, hts, hK, hsz, hlk, hR, hN, hnL⟩ := hX
  intro hF H locs ls hP hS hl
  exact lv_aload hx hb hd (lv_at hl k (lvm_at hk)) (kk hF H locs ls hP hS hl)
theorem pw_aload_nN (hX : Ok X cc own mL rm) {j : Fin 4} (hd : decode cc pc = .ok (.aload_n j, 1)) (k : Nat) (hk : lv[k]? = some ((j : Nat), .null)) (kk : PW X kc ks F (pc + 1) lv (.null :: st)) : PW X kc ks F pc lv (st) := by
  obtain ⟨⟨p, l, e, R, s⟩, ⟨m, args, below, meth, c⟩, ⟨Q, D, cy⟩, ⟨b, n0, nL, sc⟩⟩ := X
  obtain ⟨hx, hb, hml, hown, hts, hK, hsz, hlk, hR, hN, hnL⟩ := hX
  intro hF H locs ls hP hS hl
  exact lv_aload_nN hx hb hd rfl (lv_at hl k (lvm_at hk)) (kk hF H locs ls hP hS hl)
theorem pw_sload_n (hX : Ok X cc own mL rm) {j : Fin 4} {x : UInt32} (hd : decode cc pc = .ok (.aload_n j, 1)) (k : Nat) (hk : lv[k]? = some ((j : Nat), .float x)) (kk : PW X kc ks F (pc + 1) lv (.float x :: st)) : PW X kc ks F pc lv (st) := by
  obtain ⟨⟨p, l, e, R, s⟩, ⟨m, args, below, meth, c⟩, ⟨Q, D, cy⟩, ⟨b, n0, nL, sc⟩⟩ := X
  obtain ⟨hx, hb, hml, hown, hts, hK, hsz, hlk, hR, hN, hnL⟩ := hX
  intro hF H locs ls hP hS hl
  exact lv_aload_n hx hb hd rfl (lv_at hl k (lvm_at hk)) (kk hF H locs ls hP hS hl)
theorem lvm_f1 {b sc i : Nat} {v : Value} {lv lv1 : List (Nat × Value)} (h : (i, v) :: lv.filter (fun q => !(q.1 == i) && !(q.1 + 1 == i && q.2.category == 2)) = lv1) : (i, mv b sc v) :: (lv.map (fun q => (q.1, mv b sc q.2))).filter (fun q => !(q.1 == i) && !(q.1 + 1 == i && q.2.category == 2)) = lv1.map (fun q => (q.1, mv b sc q.2)) := by
  rw [← h, List.map_cons, mv_filter b sc lv (fun k => !(k == i)) (fun k => k + 1 == i)]
theorem lvm_f2 {b sc i : Nat} {v : Value} {lv lv1 : List (Nat × Value)} (h : (i, v) :: lv.filter (fun q => !(q.1 == i) && (!(q.1 == i + 1) && !(q.1 + 1 == i && q.2.category == 2))) = lv1) : (i, mv b sc v) :: (lv.map (fun q => (q.1, mv b sc q.2))).filter (fun q => !(q.1 == i) && (!(q.1 == i + 1) && !(q.1 + 1 == i && q.2.category == 2))) = lv1.map (fun q => (q.1, mv b sc q.2)) := by
  rw [← h, List.map_cons]
  congr 1
  rw [List.filter_map]
  congr 1
  apply List.filter_congr
  intro q _
  simp [Function.comp, mv_cat]
theorem pw_istore_n (hX : Ok X cc own mL rm) {j : Fin 4} {x : Int32} (lv1 : List (Nat × Value)) (hd : decode cc pc = .ok (.istore_n j, 1)) (hn : (j : Nat) < mL) (hf : ((j : Nat), Value.int x) :: lv.filter (fun q => !(q.1 == (j : Nat)) && !(q.1 + 1 == (j : Nat) && q.2.category == 2)) = lv1) (kk : PW X kc ks F (pc + 1) lv1 st) : PW X kc ks F pc lv (.int x :: st) := by
  obtain ⟨⟨p, l, e, R, s⟩, ⟨m, args, below, meth, c⟩, ⟨Q, D, cy⟩, ⟨b, n0, nL, sc⟩⟩ := X
  obtain ⟨hx, hb, hml, hown, hts, hK, hsz, hlk, hR, hN, hnL⟩ := hX
  intro hF H locs ls hP hS hl
  exact lv_istore_n hx hb hd rfl hl (by rw [hnL]; exact hn) (lvm_f1 (b := b) (sc := sc) hf) (fun ls hl => kk hF H locs ls hP hS hl)
theorem pw_istore (hX : Ok X cc own mL rm) {j : Nat} {x : Int32} (lv1 : List (Nat × Value)) (hd : decode cc pc = .ok (.istore j, 2)) (hn : j < mL) (hf : (j, Value.int x) :: lv.filter (fun q => !(q.1 == j) && !(q.1 + 1 == j && q.2.category == 2)) = lv1) (kk : PW X kc ks F (pc + 2) lv1 st) : PW X kc ks F pc lv (.int x :: st) := by
  obtain ⟨⟨p, l, e, R, s⟩, ⟨m, args, below, meth, c⟩, ⟨Q, D, cy⟩, ⟨b, n0, nL, sc⟩⟩ := X
  obtain ⟨hx, hb, hml, hown, hts, hK, hsz, hlk, hR, hN, hnL⟩ := hX
  intro hF H locs ls hP hS hl
  exact lv_istore hx hb hd hl (by rw [hnL]; exact hn) (lvm_f1 (b := b) (sc := sc) hf) (fun ls hl => kk hF H locs ls hP hS hl)
theorem pw_astore_n (hX : Ok X cc own mL rm) {j : Fin 4} {x : Nat} (lv1 : List (Nat × Value)) (hd : decode cc pc = .ok (.astore_n j, 1)) (hn : (j : Nat) < mL) (hf : ((j : Nat), Value.ref x) :: lv.filter (fun q => !(q.1 == (j : Nat)) && !(q.1 + 1 == (j : Nat) && q.2.category == 2)) = lv1) (kk : PW X kc ks F (pc + 1) lv1 st) : PW X kc ks F pc lv (.ref x :: st) := by
  obtain ⟨⟨p, l, e, R, s⟩, ⟨m, args, below, meth, c⟩, ⟨Q, D, cy⟩, ⟨b, n0, nL, sc⟩⟩ := X
  obtain ⟨hx, hb, hml, hown, hts, hK, hsz, hlk, hR, hN, hnL⟩ := hX
  intro hF H locs ls hP hS hl
  exact lv_astore_n hx hb hd rfl hl (by rw [hnL]; exact hn) (lvm_f1 (b := b) (sc := sc) hf) (fun ls hl => kk hF H locs ls hP hS hl)
theorem pw_astore (hX : Ok X cc own mL rm) {j : Nat} {x : Nat} (lv1 : List (Nat × Value)) (hd : decode cc pc = .ok (.astore j, 2)) (hn : j < mL) (hf : (j, Value.ref x) :: lv.filter (fun q => !(q.1 == j) && !(q.1 + 1 == j && q.2.category == 2)) = lv1) (kk : PW X kc ks F (pc + 2) lv1 st) : PW X kc ks F pc lv (.ref x :: st) := by
  obtain ⟨⟨p, l, e, R, s⟩, ⟨m, args, below, meth, c⟩, ⟨Q, D, cy⟩, ⟨b, n0, nL, sc⟩⟩ := X
  obtain ⟨hx, hb, hml, hown, hts, hK, hsz, hlk, hR, hN, hnL⟩ := hX
  intro hF H locs ls hP hS hl
  exact lv_astore hx hb hd hl (by rw [hnL]; exact hn) (lvm_f1 (b := b) (sc := sc) hf) (fun ls hl => kk hF H locs ls hP hS hl)
theorem pw_lstore_n (hX : Ok X cc own mL rm) {j : Fin 4} {x : Int64} (lv1 : List (Nat × Value)) (hd : decode cc pc = .ok (.lstore_n j, 1)) (hn : (j : Nat) + 1 < mL) (hf : ((j : Nat), Value.long x) :: lv.filter (fun q => !(q.1 == (j : Nat)) && (!(q.1 == (j : Nat) + 1) && !(q.1 + 1 == (j : Nat) && q.2.category == 2))) = lv1) (kk : PW X kc ks F (pc + 1) lv1 st) : PW X kc ks F pc lv (.long x :: st) := by
  obtain ⟨⟨p, l, e, R, s⟩, ⟨m, args, below, meth, c⟩, ⟨Q, D, cy⟩, ⟨b, n0, nL, sc⟩⟩ := X
  obtain ⟨hx, hb, hml, hown, hts, hK, hsz, hlk, hR, hN, hnL⟩ := hX
  intro hF H locs ls hP hS hl
  exact lv_lstore_n hx hb hd rfl hl (by rw [hnL]; exact hn) (lvm_f2 (b := b) (sc := sc) hf) (fun ls hl => kk hF H locs ls hP hS hl)
theorem pw_lstore (hX : Ok X cc own mL rm) {j : Nat} {x : Int64} (lv1 : List (Nat × Value)) (hd : decode cc pc = .ok (.lstore j, 2)) (hn : j + 1 < mL) (hf : (j, Value.long x) :: lv.filter (fun q => !(q.1 == j) && (!(q.1 == j + 1) && !(q.1 + 1 == j && q.2.category == 2))) = lv1) (kk : PW X kc ks F (pc + 2) lv1 st) : PW X kc ks F pc lv (.long x :: st) := by
  obtain ⟨⟨p, l, e, R, s⟩, ⟨m, args, below, meth, c⟩, ⟨Q, D, cy⟩, ⟨b, n0, nL, sc⟩⟩ := X
  obtain ⟨hx, hb, hml, hown, hts, hK, hsz, hlk, hR, hN, hnL⟩ := hX
  intro hF H locs ls hP hS hl
  exact lv_lstore hx hb hd hl (by rw [hnL]; exact hn) (lvm_f2 (b := b) (sc := sc) hf) (fun ls hl => kk hF H locs ls hP hS hl)
theorem pw_astore_nN (hX : Ok X cc own mL rm) {j : Fin 4} (lv1 : List (Nat × Value)) (hd : decode cc pc = .ok (.astore_n j, 1)) (hn : (j : Nat) < mL) (hf : ((j : Nat), Value.null) :: lv.filter (fun q => !(q.1 == (j : Nat)) && !(q.1 + 1 == (j : Nat) && q.2.category == 2)) = lv1) (kk : PW X kc ks F (pc + 1) lv1 st) : PW X kc ks F pc lv (.null :: st) := by
  obtain ⟨⟨p, l, e, R, s⟩, ⟨m, args, below, meth, c⟩, ⟨Q, D, cy⟩, ⟨b, n0, nL, sc⟩⟩ := X
  obtain ⟨hx, hb, hml, hown, hts, hK, hsz, hlk, hR, hN, hnL⟩ := hX
  intro hF H locs ls hP hS hl
  exact lv_astore_nN hx hb hd rfl hl (by rw [hnL]; exact hn) (lvm_f1 (b := b) (sc := sc) hf) (fun ls hl => kk hF H locs ls hP hS hl)
theorem pw_iinc (hX : Ok X cc own mL rm) {j : Nat} {n : Int} {x v : Int32} (lv1 : List (Nat × Value)) (hd : decode cc pc = .ok (.iinc j n, 3)) (k : Nat) (hk : lv[k]? = some (j, .int x)) (hv : x + Int32.ofInt n = v) (hn : j < mL) (hf : (j, Value.int v) :: lv.filter (fun q => !(q.1 == j) && !(q.1 + 1 == j && q.2.category == 2)) = lv1) (kk : PW X kc ks F (pc + 3) lv1 st) : PW X kc ks F pc lv (st) := by
  obtain ⟨⟨p, l, e, R, s⟩, ⟨m, args, below, meth, c⟩, ⟨Q, D, cy⟩, ⟨b, n0, nL, sc⟩⟩ := X
  obtain ⟨hx, hb, hml, hown, hts, hK, hsz, hlk, hR, hN, hnL⟩ := hX
  intro hF H locs ls hP hS hl
  exact lv_iinc hx hb hd hl (lvm_at hk) hv (by rw [hnL]; exact hn) (lvm_f1 (b := b) (sc := sc) hf) (fun ls hl => kk hF H locs ls hP hS hl)
theorem lvm_pick {b sc : Nat} {lv lv1 : List (Nat × Value)} {is : List Nat} (h : lv_pick lv is = lv1) : lv_pick (lv.map (fun q => (q.1, mv b sc q.2))) is = lv1.map (fun q => (q.1, mv b sc q.2)) := by
  rw [← h]
  unfold lv_pick
  rw [List.map_filterMap]
  apply congrArg (fun f => List.filterMap f is)
  funext k
  rw [List.getElem?_map]
theorem pw_sub {lv1 : List (Nat × Value)} (is : List Nat) (h : lv_pick lv is = lv1) (k : PW X kc ks F pc lv1 st) : PW X kc ks F pc lv st := by
  obtain ⟨⟨p, l, e, R, s⟩, ⟨m, args, below, meth, c⟩, ⟨Q, D, cy⟩, ⟨b, n0, nL, sc⟩⟩ := X
  intro hF H locs ls hP hS hl
  exact k hF H locs ls hP hS (lv_sub hl is (lvm_pick h))
theorem pw_dup (hX : Ok X cc own mL rm) {v : Value} (hd : decode cc pc = .ok (.dup, 1)) (hv : v.category = 1) (k : PW X kc ks F (pc + 1) lv (v :: v :: st)) : PW X kc ks F pc lv (v :: st) := by
  obtain ⟨⟨p, l, e, R, s⟩, ⟨m, args, below, meth, c⟩, ⟨Q, D, cy⟩, ⟨b, n0, nL, sc⟩⟩ := X
  obtain ⟨hx, hb, hml, hown, hts, hK, hsz, hlk, hR, hN, hnL⟩ := hX
  intro hF H locs ls hP hS hl
  exact lv_dup hx hb hd ((mv_cat b sc v).trans hv) (k hF H locs ls hP hS hl)
theorem pw_dup2 (hX : Ok X cc own mL rm) {v w : Value} (hd : decode cc pc = .ok (.dup2, 1)) (hv : v.category = 1) (hw : w.category = 1) (k : PW X kc ks F (pc + 1) lv (v :: w :: v :: w :: st)) : PW X kc ks F pc lv (v :: w :: st) := by
  obtain ⟨⟨p, l, e, R, s⟩, ⟨m, args, below, meth, c⟩, ⟨Q, D, cy⟩, ⟨b, n0, nL, sc⟩⟩ := X
  obtain ⟨hx, hb, hml, hown, hts, hK, hsz, hlk, hR, hN, hnL⟩ := hX
  intro hF H locs ls hP hS hl
  exact lv_dup2_11 hx hb hd ((mv_cat b sc v).trans hv) ((mv_cat b sc w).trans hw) (k hF H locs ls hP hS hl)
theorem pw_pop (hX : Ok X cc own mL rm) {v : Value} (hd : decode cc pc = .ok (.pop, 1)) (hv : v.category = 1) (k : PW X kc ks F (pc + 1) lv st) : PW X kc ks F pc lv (v :: st) := by
  obtain ⟨⟨p, l, e, R, s⟩, ⟨m, args, below, meth, c⟩, ⟨Q, D, cy⟩, ⟨b, n0, nL, sc⟩⟩ := X
  obtain ⟨hx, hb, hml, hown, hts, hK, hsz, hlk, hR, hN, hnL⟩ := hX
  intro hF H locs ls hP hS hl
  exact lv_pop hx hb hd ((mv_cat b sc v).trans hv) (k hF H locs ls hP hS hl)
theorem pw_goto (hX : Ok X cc own mL rm) {off : Int} {tgt : Nat} (hd : decode cc pc = .ok (.goto off, 3)) (ht : (pc : Int) + off = (tgt : Int)) (k : PW X kc ks F tgt lv st) : PW X kc ks F pc lv (st) := by
  obtain ⟨⟨p, l, e, R, s⟩, ⟨m, args, below, meth, c⟩, ⟨Q, D, cy⟩, ⟨b, n0, nL, sc⟩⟩ := X
  obtain ⟨hx, hb, hml, hown, hts, hK, hsz, hlk, hR, hN, hnL⟩ := hX
  intro hF H locs ls hP hS hl
  exact lv_goto hx hb hd ht (k hF H locs ls hP hS hl)
theorem pw_if_eq (hX : Ok X cc own mL rm) {x : Int32} {off : Int} {tgt : Nat} {A B : Option α} (hd : decode cc pc = .ok (.ifCond .eq off, 3)) (ht : (pc : Int) + off = (tgt : Int)) (h : (if x = 0 then A else B) = some res) (kt : x = 0 → A = some res → PW X kc ks F tgt lv st) (kf : ¬ x = 0 → B = some res → PW X kc ks F (pc + 3) lv st) : PW X kc ks F pc lv (.int x :: st) := by
  obtain ⟨⟨p, l, e, R, s⟩, ⟨m, args, below, meth, c⟩, ⟨Q, D, cy⟩, ⟨b, n0, nL, sc⟩⟩ := X
  obtain ⟨hx, hb, hml, hown, hts, hK, hsz, hlk, hR, hN, hnL⟩ := hX
  intro hF H locs ls hP hS hl
  exact lv_if_eq hx hb hd ht (fun q => kt q (by rw [if_pos q] at h; exact h) hF H locs ls hP hS hl) (fun q => kf q (by rw [if_neg q] at h; exact h) hF H locs ls hP hS hl)
theorem pw_icmp_eq (hX : Ok X cc own mL rm) {x y : Int32} {off : Int} {tgt : Nat} {A B : Option α} (hd : decode cc pc = .ok (.if_icmp .eq off, 3)) (ht : (pc : Int) + off = (tgt : Int)) (h : (if x = y then A else B) = some res) (kt : x = y → A = some res → PW X kc ks F tgt lv st) (kf : ¬ x = y → B = some res → PW X kc ks F (pc + 3) lv st) : PW X kc ks F pc lv (.int y :: .int x :: st) := by
  obtain ⟨⟨p, l, e, R, s⟩, ⟨m, args, below, meth, c⟩, ⟨Q, D, cy⟩, ⟨b, n0, nL, sc⟩⟩ := X
  obtain ⟨hx, hb, hml, hown, hts, hK, hsz, hlk, hR, hN, hnL⟩ := hX
  intro hF H locs ls hP hS hl
  exact lv_icmp_eq hx hb hd ht (fun q => kt q (by rw [if_pos q] at h; exact h) hF H locs ls hP hS hl) (fun q => kf q (by rw [if_neg q] at h; exact h) hF H locs ls hP hS hl)
theorem pw_if_ne (hX : Ok X cc own mL rm) {x : Int32} {off : Int} {tgt : Nat} {A B : Option α} (hd : decode cc pc = .ok (.ifCond .ne off, 3)) (ht : (pc : Int) + off = (tgt : Int)) (h : (if x = 0 then B else A) = some res) (kt : ¬ x = 0 → A = some res → PW X kc ks F tgt lv st) (kf : x = 0 → B = some res → PW X kc ks F (pc + 3) lv st) : PW X kc ks F pc lv (.int x :: st) := by
  obtain ⟨⟨p, l, e, R, s⟩, ⟨m, args, below, meth, c⟩, ⟨Q, D, cy⟩, ⟨b, n0, nL, sc⟩⟩ := X
  obtain ⟨hx, hb, hml, hown, hts, hK, hsz, hlk, hR, hN, hnL⟩ := hX
  intro hF H locs ls hP hS hl
  exact lv_if_ne hx hb hd ht (fun q => kt q (by rw [if_neg q] at h; exact h) hF H locs ls hP hS hl) (fun q => kf q (by rw [if_pos q] at h; exact h) hF H locs ls hP hS hl)
theorem pw_icmp_ne (hX : Ok X cc own mL rm) {x y : Int32} {off : Int} {tgt : Nat} {A B : Option α} (hd : decode cc pc = .ok (.if_icmp .ne off, 3)) (ht : (pc : Int) + off = (tgt : Int)) (h : (if x = y then B else A) = some res) (kt : ¬ x = y → A = some res → PW X kc ks F tgt lv st) (kf : x = y → B = some res → PW X kc ks F (pc + 3) lv st) : PW X kc ks F pc lv (.int y :: .int x :: st) := by
  obtain ⟨⟨p, l, e, R, s⟩, ⟨m, args, below, meth, c⟩, ⟨Q, D, cy⟩, ⟨b, n0, nL, sc⟩⟩ := X
  obtain ⟨hx, hb, hml, hown, hts, hK, hsz, hlk, hR, hN, hnL⟩ := hX
  intro hF H locs ls hP hS hl
  exact lv_icmp_ne hx hb hd ht (fun q => kt q (by rw [if_neg q] at h; exact h) hF H locs ls hP hS hl) (fun q => kf q (by rw [if_pos q] at h; exact h) hF H locs ls hP hS hl)
theorem pw_if_lt (hX : Ok X cc own mL rm) {x : Int32} {off : Int} {tgt : Nat} {A B : Option α} (hd : decode cc pc = .ok (.ifCond .lt off, 3)) (ht : (pc : Int) + off = (tgt : Int)) (h : (if x < 0 then A else B) = some res) (kt : x < 0 → A = some res → PW X kc ks F tgt lv st) (kf : ¬ x < 0 → B = some res → PW X kc ks F (pc + 3) lv st) : PW X kc ks F pc lv (.int x :: st) := by
  obtain ⟨⟨p, l, e, R, s⟩, ⟨m, args, below, meth, c⟩, ⟨Q, D, cy⟩, ⟨b, n0, nL, sc⟩⟩ := X
  obtain ⟨hx, hb, hml, hown, hts, hK, hsz, hlk, hR, hN, hnL⟩ := hX
  intro hF H locs ls hP hS hl
  exact lv_if_lt hx hb hd ht (fun q => kt q (by rw [if_pos q] at h; exact h) hF H locs ls hP hS hl) (fun q => kf q (by rw [if_neg q] at h; exact h) hF H locs ls hP hS hl)
theorem pw_icmp_lt (hX : Ok X cc own mL rm) {x y : Int32} {off : Int} {tgt : Nat} {A B : Option α} (hd : decode cc pc = .ok (.if_icmp .lt off, 3)) (ht : (pc : Int) + off = (tgt : Int)) (h : (if x < y then A else B) = some res) (kt : x < y → A = some res → PW X kc ks F tgt lv st) (kf : ¬ x < y → B = some res → PW X kc ks F (pc + 3) lv st) : PW X kc ks F pc lv (.int y :: .int x :: st) := by
  obtain ⟨⟨p, l, e, R, s⟩, ⟨m, args, below, meth, c⟩, ⟨Q, D, cy⟩, ⟨b, n0, nL, sc⟩⟩ := X
  obtain ⟨hx, hb, hml, hown, hts, hK, hsz, hlk, hR, hN, hnL⟩ := hX
  intro hF H locs ls hP hS hl
  exact lv_icmp_lt hx hb hd ht (fun q => kt q (by rw [if_pos q] at h; exact h) hF H locs ls hP hS hl) (fun q => kf q (by rw [if_neg q] at h; exact h) hF H locs ls hP hS hl)
theorem pw_if_ge (hX : Ok X cc own mL rm) {x : Int32} {off : Int} {tgt : Nat} {A B : Option α} (hd : decode cc pc = .ok (.ifCond .ge off, 3)) (ht : (pc : Int) + off = (tgt : Int)) (h : (if 0 ≤ x then A else B) = some res) (kt : 0 ≤ x → A = some res → PW X kc ks F tgt lv st) (kf : ¬ 0 ≤ x → B = some res → PW X kc ks F (pc + 3) lv st) : PW X kc ks F pc lv (.int x :: st) := by
  obtain ⟨⟨p, l, e, R, s⟩, ⟨m, args, below, meth, c⟩, ⟨Q, D, cy⟩, ⟨b, n0, nL, sc⟩⟩ := X
  obtain ⟨hx, hb, hml, hown, hts, hK, hsz, hlk, hR, hN, hnL⟩ := hX
  intro hF H locs ls hP hS hl
  exact lv_if_ge hx hb hd ht (fun q => kt q (by rw [if_pos q] at h; exact h) hF H locs ls hP hS hl) (fun q => kf q (by rw [if_neg q] at h; exact h) hF H locs ls hP hS hl)
theorem pw_icmp_ge (hX : Ok X cc own mL rm) {x y : Int32} {off : Int} {tgt : Nat} {A B : Option α} (hd : decode cc pc = .ok (.if_icmp .ge off, 3)) (ht : (pc : Int) + off = (tgt : Int)) (h : (if y ≤ x then A else B) = some res) (kt : y ≤ x → A = some res → PW X kc ks F tgt lv st) (kf : ¬ y ≤ x → B = some res → PW X kc ks F (pc + 3) lv st) : PW X kc ks F pc lv (.int y :: .int x :: st) := by
  obtain ⟨⟨p, l, e, R, s⟩, ⟨m, args, below, meth, c⟩, ⟨Q, D, cy⟩, ⟨b, n0, nL, sc⟩⟩ := X
  obtain ⟨hx, hb, hml, hown, hts, hK, hsz, hlk, hR, hN, hnL⟩ := hX
  intro hF H locs ls hP hS hl
  exact lv_icmp_ge hx hb hd ht (fun q => kt q (by rw [if_pos q] at h; exact h) hF H locs ls hP hS hl) (fun q => kf q (by rw [if_neg q] at h; exact h) hF H locs ls hP hS hl)
theorem pw_if_gt (hX : Ok X cc own mL rm) {x : Int32} {off : Int} {tgt : Nat} {A B : Option α} (hd : decode cc pc = .ok (.ifCond .gt off, 3)) (ht : (pc : Int) + off = (tgt : Int)) (h : (if 0 < x then A else B) = some res) (kt : 0 < x → A = some res → PW X kc ks F tgt lv st) (kf : ¬ 0 < x → B = some res → PW X kc ks F (pc + 3) lv st) : PW X kc ks F pc lv (.int x :: st) := by
  obtain ⟨⟨p, l, e, R, s⟩, ⟨m, args, below, meth, c⟩, ⟨Q, D, cy⟩, ⟨b, n0, nL, sc⟩⟩ := X
  obtain ⟨hx, hb, hml, hown, hts, hK, hsz, hlk, hR, hN, hnL⟩ := hX
  intro hF H locs ls hP hS hl
  exact lv_if_gt hx hb hd ht (fun q => kt q (by rw [if_pos q] at h; exact h) hF H locs ls hP hS hl) (fun q => kf q (by rw [if_neg q] at h; exact h) hF H locs ls hP hS hl)
theorem pw_icmp_gt (hX : Ok X cc own mL rm) {x y : Int32} {off : Int} {tgt : Nat} {A B : Option α} (hd : decode cc pc = .ok (.if_icmp .gt off, 3)) (ht : (pc : Int) + off = (tgt : Int)) (h : (if y < x then A else B) = some res) (kt : y < x → A = some res → PW X kc ks F tgt lv st) (kf : ¬ y < x → B = some res → PW X kc ks F (pc + 3) lv st) : PW X kc ks F pc lv (.int y :: .int x :: st) := by
  obtain ⟨⟨p, l, e, R, s⟩, ⟨m, args, below, meth, c⟩, ⟨Q, D, cy⟩, ⟨b, n0, nL, sc⟩⟩ := X
  obtain ⟨hx, hb, hml, hown, hts, hK, hsz, hlk, hR, hN, hnL⟩ := hX
  intro hF H locs ls hP hS hl
  exact lv_icmp_gt hx hb hd ht (fun q => kt q (by rw [if_pos q] at h; exact h) hF H locs ls hP hS hl) (fun q => kf q (by rw [if_neg q] at h; exact h) hF H locs ls hP hS hl)
theorem pw_if_le (hX : Ok X cc own mL rm) {x : Int32} {off : Int} {tgt : Nat} {A B : Option α} (hd : decode cc pc = .ok (.ifCond .le off, 3)) (ht : (pc : Int) + off = (tgt : Int)) (h : (if x ≤ 0 then A else B) = some res) (kt : x ≤ 0 → A = some res → PW X kc ks F tgt lv st) (kf : ¬ x ≤ 0 → B = some res → PW X kc ks F (pc + 3) lv st) : PW X kc ks F pc lv (.int x :: st) := by
  obtain ⟨⟨p, l, e, R, s⟩, ⟨m, args, below, meth, c⟩, ⟨Q, D, cy⟩, ⟨b, n0, nL, sc⟩⟩ := X
  obtain ⟨hx, hb, hml, hown, hts, hK, hsz, hlk, hR, hN, hnL⟩ := hX
  intro hF H locs ls hP hS hl
  exact lv_if_le hx hb hd ht (fun q => kt q (by rw [if_pos q] at h; exact h) hF H locs ls hP hS hl) (fun q => kf q (by rw [if_neg q] at h; exact h) hF H locs ls hP hS hl)
theorem pw_icmp_le (hX : Ok X cc own mL rm) {x y : Int32} {off : Int} {tgt : Nat} {A B : Option α} (hd : decode cc pc = .ok (.if_icmp .le off, 3)) (ht : (pc : Int) + off = (tgt : Int)) (h : (if x ≤ y then A else B) = some res) (kt : x ≤ y → A = some res → PW X kc ks F tgt lv st) (kf : ¬ x ≤ y → B = some res → PW X kc ks F (pc + 3) lv st) : PW X kc ks F pc lv (.int y :: .int x :: st) := by
  obtain ⟨⟨p, l, e, R, s⟩, ⟨m, args, below, meth, c⟩, ⟨Q, D, cy⟩, ⟨b, n0, nL, sc⟩⟩ := X
  obtain ⟨hx, hb, hml, hown, hts, hK, hsz, hlk, hR, hN, hnL⟩ := hX
  intro hF H locs ls hP hS hl
  exact lv_icmp_le hx hb hd ht (fun q => kt q (by rw [if_pos q] at h; exact h) hF H locs ls hP hS hl) (fun q => kf q (by rw [if_neg q] at h; exact h) hF H locs ls hP hS hl)
theorem pw_tin (hX : Ok X cc own mL rm) {dflt lo hi : Int} {offs : Array Int} {len : Nat} {x v : Int32} {off : Int} {tgt : Nat} (hd : decode cc pc = .ok (.tableswitch dflt lo hi offs, len)) (hv : x = v) (h1 : ¬ v.toInt < lo) (h2 : ¬ hi < v.toInt) (ho : offs[(v.toInt - lo).toNat]? = some off) (ht : (pc : Int) + off = (tgt : Int)) (k : PW X kc ks F tgt lv st) : PW X kc ks F pc lv (.int x :: st) := by
  obtain ⟨⟨p, l, e, R, s⟩, ⟨m, args, below, meth, c⟩, ⟨Q, D, cy⟩, ⟨b, n0, nL, sc⟩⟩ := X
  obtain ⟨hx, hb, hml, hown, hts, hK, hsz, hlk, hR, hN, hnL⟩ := hX
  intro hF H locs ls hP hS hl
  subst hv
  exact lv_tableIn hx hb hd h1 h2 ho ht (k hF H locs ls hP hS hl)
theorem pw_tout (hX : Ok X cc own mL rm) {dflt lo hi : Int} {offs : Array Int} {len : Nat} {x : Int32} {tgt : Nat} (hd : decode cc pc = .ok (.tableswitch dflt lo hi offs, len)) (h : x.toInt < lo ∨ hi < x.toInt) (ht : (pc : Int) + dflt = (tgt : Int)) (k : PW X kc ks F tgt lv st) : PW X kc ks F pc lv (.int x :: st) := by
  obtain ⟨⟨p, l, e, R, s⟩, ⟨m, args, below, meth, c⟩, ⟨Q, D, cy⟩, ⟨b, n0, nL, sc⟩⟩ := X
  obtain ⟨hx, hb, hml, hown, hts, hK, hsz, hlk, hR, hN, hnL⟩ := hX
  intro hF H locs ls hP hS hl
  exact lv_tableOut hx hb hd h ht (k hF H locs ls hP hS hl)
theorem pw_ifnull (hX : Ok X cc own mL rm) {x : Nat} {off : Int} (hd : decode cc pc = .ok (.ifnull off, 3)) (k : PW X kc ks F (pc + 3) lv st) : PW X kc ks F pc lv (.ref x :: st) := by
  obtain ⟨⟨p, l, e, R, s⟩, ⟨m, args, below, meth, c⟩, ⟨Q, D, cy⟩, ⟨b, n0, nL, sc⟩⟩ := X
  obtain ⟨hx, hb, hml, hown, hts, hK, hsz, hlk, hR, hN, hnL⟩ := hX
  intro hF H locs ls hP hS hl
  exact lv_ifnull hx hb hd (k hF H locs ls hP hS hl)
theorem pw_ifnullN (hX : Ok X cc own mL rm) {off : Int} {tgt : Nat} (hd : decode cc pc = .ok (.ifnull off, 3)) (ht : (pc : Int) + off = (tgt : Int)) (k : PW X kc ks F tgt lv st) : PW X kc ks F pc lv (.null :: st) := by
  obtain ⟨⟨p, l, e, R, s⟩, ⟨m, args, below, meth, c⟩, ⟨Q, D, cy⟩, ⟨b, n0, nL, sc⟩⟩ := X
  obtain ⟨hx, hb, hml, hown, hts, hK, hsz, hlk, hR, hN, hnL⟩ := hX
  intro hF H locs ls hP hS hl
  exact lv_ifnullN hx hb hd ht (k hF H locs ls hP hS hl)
theorem pw_ifnonnull (hX : Ok X cc own mL rm) {x : Nat} {off : Int} {tgt : Nat} (hd : decode cc pc = .ok (.ifnonnull off, 3)) (ht : (pc : Int) + off = (tgt : Int)) (k : PW X kc ks F tgt lv st) : PW X kc ks F pc lv (.ref x :: st) := by
  obtain ⟨⟨p, l, e, R, s⟩, ⟨m, args, below, meth, c⟩, ⟨Q, D, cy⟩, ⟨b, n0, nL, sc⟩⟩ := X
  obtain ⟨hx, hb, hml, hown, hts, hK, hsz, hlk, hR, hN, hnL⟩ := hX
  intro hF H locs ls hP hS hl
  exact lv_ifnonnull hx hb hd ht (k hF H locs ls hP hS hl)
theorem pw_ifnonnullN (hX : Ok X cc own mL rm) {off : Int} (hd : decode cc pc = .ok (.ifnonnull off, 3)) (k : PW X kc ks F (pc + 3) lv st) : PW X kc ks F pc lv (.null :: st) := by
  obtain ⟨⟨p, l, e, R, s⟩, ⟨m, args, below, meth, c⟩, ⟨Q, D, cy⟩, ⟨b, n0, nL, sc⟩⟩ := X
  obtain ⟨hx, hb, hml, hown, hts, hK, hsz, hlk, hR, hN, hnL⟩ := hX
  intro hF H locs ls hP hS hl
  exact lv_ifnonnullN hx hb hd (k hF H locs ls hP hS hl)
end ROWS
