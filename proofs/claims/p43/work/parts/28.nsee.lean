theorem rn_nsee {M : Nat → rn_D} : rn_TS M RX7 cX7_cause 1 ([], "cause", some .int) 8 (rn_tw 4) := by
  sorry
