/-! words of the ghosts -/
def gF : Nat := 1000
def jushr (x y : Int32) : Int32 := (x.toUInt32 >>> (y.toUInt32 &&& Int32.toUInt32 31)).toInt32
def jlshl (x : Int64) (y : Int32) : Int64 := x <<< (y.toInt64 &&& 63)
def jlushr (x : Int64) (y : Int32) : Int64 := (x.toUInt64 >>> (y.toInt64.toUInt64 &&& Int64.toUInt64 63)).toInt64
def optQ {α : Type} (q : Option Nat) (A : Option α) (B : Nat → Option α) : Option α := match q with
  | none => A
  | some q => B q
theorem pw_sw {α : Type} {res : α} {x v : Int32} {A B : Option α} {G : Prop} (h : (if x = v then A else B) = some res) (kt : x = v → A = some res → G) (kf : ¬ x = v → B = some res → G) : G := by
  by_cases hc : x = v
  · exact kt hc (by rw [if_pos hc] at h; exact h)
  · exact kf hc (by rw [if_neg hc] at h; exact h)
def letH {α : Type} (F : Hp) (K : Hp → Option α) : Option α := K F
theorem letH_spec {α : Type} {F : Hp} {K : Hp → Option α} {res : α} (h : letH F K = some res) : ∃ F1, F1 = F ∧ K F1 = some res := ⟨F, rfl, h⟩
