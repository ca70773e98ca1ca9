theorem law_pure {L : Nat} {xs : Nat → Int32} (hL : L ≤ 2560) : g_L_law L xs (fun _ => dd) = some () := by
  sorry
