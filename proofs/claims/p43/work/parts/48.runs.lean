section RNKZ
theorem rb_all : ∀ S D a : Nat, 1 ≤ S → S ≤ 6 → 1 ≤ D → D ≤ 4 → a ≤ 1 → rt_chk tf_127 S D a 0 299 931 = true := by
  sorry
theorem rc_all : ∀ S D a : Nat, 1 ≤ S → S ≤ 6 → 1 ≤ D → D ≤ 4 → a ≤ 1 → rt_chk tf_128 S D a 1 931 299 = true := by
  sorry
end RNKZ
