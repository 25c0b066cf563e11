section RNKY
theorem ra_run0 : ra_chk0 = true := by
  sorry
theorem ra_run : ∀ S D : Nat, 1 ≤ S → S ≤ 6 → 1 ≤ D → D ≤ 4 → ra_chk S D = true := by
  sorry
end RNKY
