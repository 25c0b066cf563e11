section RNFI3
theorem ra_run : ∀ S D : Nat, 1 ≤ S → S ≤ 6 → 1 ≤ D → D ≤ 4 → ra_chk S D = true := by
  intro S D h1 h2 h3 h4
  have hS : S = 1 ∨ S = 2 ∨ S = 3 ∨ S = 4 ∨ S = 5 ∨ S = 6 := by omega
  have hD : D = 1 ∨ D = 2 ∨ D = 3 ∨ D = 4 := by omega
  rcases hD with rfl | rfl | rfl | rfl <;> rcases hS with rfl | rfl | rfl | rfl | rfl | rfl
  · exact ra_1_1
  · exact ra_2_1
  · exact ra_3_1
  · exact ra_4_1
  · exact ra_5_1
  · exact ra_6_1
  · exact ra_1_2
  · exact ra_2_2
  · exact ra_3_2
  · exact ra_4_2
  · exact ra_5_2
  · exact ra_6_2
  · exact ra_1_3
  · exact ra_2_3
  · exact ra_3_3
  · exact ra_4_3
  · exact ra_5_3
  · exact ra_6_3
  · exact ra_1_4
  · exact ra_2_4
  · exact ra_3_4
  · exact ra_4_4
  · exact ra_5_4
  · exact ra_6_4
end RNFI3
