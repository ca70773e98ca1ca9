theorem law_pure {L : Nat} {xs : Nat → Int32} (hL : L ≤ 2560) : g_L_law L xs (fun _ => dd) = some () := by
  obtain ⟨F2, a1, a2, a3⟩ := i_X7 (va_up (fun _ => dd) 0 (.inr (7, [.null, .null, .null, .null, .null, .null, .null, .null, .long 0]))) (va_up_self _ _ _)
  have b1 := i_X8 (va_up F2 107 (.inr (8, [.int 0, .null, .int 0, .int 0, .null, .null, .int 0, .null, .null, .null, .int 0, .null, .null, .int 0, .null, .null, .int 0, .null, .null, .long 0, .null, .int 0]))) (va_up_self _ _ _)
  rw [g_L_law, letH, a1, Option.bind_some, letH, b1, Option.bind_some]
  refine law_loop hL 512 0 gF _ (Jn_start a2 (fun k hk => ?_) (mh_mh _ _ _ _ _ _ _)) (by omega) (by unfold gF; omega) (by omega)
  rw [mh_n (by omega), va_up_ne _ _ (by omega)]
