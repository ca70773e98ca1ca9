/-! Math.max, min, abs -/
def jmax (x y : Int32) : Int32 := if x < y then y else x
def jmin (x y : Int32) : Int32 := if y < x then y else x
def jabs (x : Int32) : Int32 := if 0 ≤ x then x else 0 - x
theorem mt_ini : Cond.initialized "java/lang/Math" ∈ lw_g := mg 30 (by decide +kernel) rfl
theorem mt_smax : Cond.static Lib.Math.max.name ∈ lw_g := mg 348 (by decide +kernel) rfl
theorem mt_cmax : Cond.code Lib.Math.max.name Lib.Math.max.code 2 (some .int) ∈ lw_g := mg 349 (by decide +kernel) rfl
theorem mt_smin : Cond.static Lib.Math.min.name ∈ lw_g := mg 528 (by decide +kernel) rfl
theorem mt_cmin : Cond.code Lib.Math.min.name Lib.Math.min.code 2 (some .int) ∈ lw_g := mg 529 (by decide +kernel) rfl
theorem mt_sabs : Cond.static Lib.Math.abs.name ∈ lw_g := mg 555 (by decide +kernel) rfl
theorem mt_cabs : Cond.code Lib.Math.abs.name Lib.Math.abs.code 1 (some .int) ∈ lw_g := mg 556 (by decide +kernel) rfl
section MATH
variable {X : Cx} {cc : ByteArray} {own : String} {mL : Nat} {rm : Room} {kc ks : Nat} {F : Hp} {pc idx : Nat} {lv : List (Nat × Value)} {st : List Value}
theorem pw_mmax (hX : Ok X cc own mL rm) {x y : Int32} (hd : decode cc pc = .ok (.invokestatic idx, 3)) (hL : Cond.methodLink own idx Lib.Math.max.name ∈ lw_g) (h1 : 1 ≤ rm.frames) (h2 : 21 ≤ rm.locals) (hrc : kc ≤ rm.cells ∧ ks ≤ rm.slots) (hst : (st.map fun v => v.category).sum ≤ 8) (kk : PW X kc ks F (pc + 3) lv (.int (jmax x y) :: st)) : PW X kc ks F pc lv (.int y :: .int x :: st) := by
  obtain ⟨⟨p, l, e, R, s⟩, ⟨m, args, below, meth, c⟩, ⟨Q, D, cy⟩, ⟨b, n0, nL, sc⟩⟩ := X
  obtain ⟨hx, hb, hml, hown, hts, hK, hsz, hlk, rfl, hN, hnL⟩ := hX
  intro hF H locs ls hP hS hl
  exact va_mmax hx hb (hml.trans hl.1.symm) hown (hts _ hL) (hts _ mt_smax) (hts _ mt_ini) (hts _ mt_cmax) h1 (by rw [mv_cats]; omega) hrc.1 hrc.2 hd (kk hF H locs ls hP hS hl)
theorem pw_mmin (hX : Ok X cc own mL rm) {x y : Int32} (hd : decode cc pc = .ok (.invokestatic idx, 3)) (hL : Cond.methodLink own idx Lib.Math.min.name ∈ lw_g) (h1 : 1 ≤ rm.frames) (h2 : 21 ≤ rm.locals) (hrc : kc ≤ rm.cells ∧ ks ≤ rm.slots) (hst : (st.map fun v => v.category).sum ≤ 8) (kk : PW X kc ks F (pc + 3) lv (.int (jmin x y) :: st)) : PW X kc ks F pc lv (.int y :: .int x :: st) := by
  obtain ⟨⟨p, l, e, R, s⟩, ⟨m, args, below, meth, c⟩, ⟨Q, D, cy⟩, ⟨b, n0, nL, sc⟩⟩ := X
  obtain ⟨hx, hb, hml, hown, hts, hK, hsz, hlk, rfl, hN, hnL⟩ := hX
  intro hF H locs ls hP hS hl
  exact va_mmin hx hb (hml.trans hl.1.symm) hown (hts _ hL) (hts _ mt_smin) (hts _ mt_ini) (hts _ mt_cmin) h1 (by rw [mv_cats]; omega) hrc.1 hrc.2 hd (kk hF H locs ls hP hS hl)
theorem pw_mabs (hX : Ok X cc own mL rm) {x : Int32} (hd : decode cc pc = .ok (.invokestatic idx, 3)) (hL : Cond.methodLink own idx Lib.Math.abs.name ∈ lw_g) (h1 : 1 ≤ rm.frames) (h2 : 21 ≤ rm.locals) (hrc : kc ≤ rm.cells ∧ ks ≤ rm.slots) (hst : (st.map fun v => v.category).sum ≤ 8) (kk : PW X kc ks F (pc + 3) lv (.int (jabs x) :: st)) : PW X kc ks F pc lv (.int x :: st) := by
  obtain ⟨⟨p, l, e, R, s⟩, ⟨m, args, below, meth, c⟩, ⟨Q, D, cy⟩, ⟨b, n0, nL, sc⟩⟩ := X
  obtain ⟨hx, hb, hml, hown, hts, hK, hsz, hlk, rfl, hN, hnL⟩ := hX
  intro hF H locs ls hP hS hl
  exact va_mabs hx hb (hml.trans hl.1.symm) hown (hts _ hL) (hts _ mt_sabs) (hts _ mt_ini) (hts _ mt_cabs) h1 (by rw [mv_cats]; omega) hrc.1 hrc.2 hd (kk hF H locs ls hP hS hl)
end MATH
