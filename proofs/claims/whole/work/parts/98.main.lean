theorem lw_main {L : Nat} {xs : Nat → Int32} (hL : L ≤ 384) : Lw_law_18 L xs iz_FU 0 ct_S1 = some 1 := by
  sorry
