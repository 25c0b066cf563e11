section RNKZ
theorem rp_s {P : Nat → Prop} {k : Nat} (h : ∀ i : Nat, i < k → P i) (h0 : P k) : ∀ i : Nat, i < k + 1 → P i := by
  intro i hi
  rcases Nat.lt_or_ge i k with q | q
  · exact h i q
  · rw [show i = k by omega]
    exact h0
theorem rp_z {P : Nat → Prop} : ∀ i : Nat, i < 0 → P i := fun i hi => absurd hi (Nat.not_lt_zero i)
theorem rb_all : ∀ S D a : Nat, 1 ≤ S → S ≤ 6 → 1 ≤ D → D ≤ 4 → a ≤ 1 → rt_chk tf_127 S D a 0 299 931 = true ∨ ∀ i : Nat, i < 6 → rp_chk S D a i = true := by
  intro S D a h1 h2 h3 h4 h5
  have hS : S = 1 ∨ S = 2 ∨ S = 3 ∨ S = 4 ∨ S = 5 ∨ S = 6 := by omega
  have hD : D = 1 ∨ D = 2 ∨ D = 3 ∨ D = 4 := by omega
  have ha : a = 0 ∨ a = 1 := by omega
  rcases ha with rfl | rfl <;> rcases hD with rfl | rfl | rfl | rfl <;> rcases hS with rfl | rfl | rfl | rfl | rfl | rfl
  · exact Or.inl rb_1_1_0
  · exact Or.inl rb_2_1_0
  · exact Or.inl rb_3_1_0
  · exact Or.inl rb_4_1_0
  · exact Or.inl rb_5_1_0
  · exact Or.inl rb_6_1_0
  · exact Or.inl rb_1_2_0
  · exact Or.inl rb_2_2_0
  · exact Or.inl rb_3_2_0
  · exact Or.inl rb_4_2_0
  · exact Or.inl rb_5_2_0
  · exact Or.inl rb_6_2_0
  · exact Or.inl rb_1_3_0
  · exact Or.inl rb_2_3_0
  · exact Or.inl rb_3_3_0
  · exact Or.inl rb_4_3_0
  · exact Or.inl rb_5_3_0
  · exact Or.inl rb_6_3_0
  · exact Or.inl rb_1_4_0
  · exact Or.inl rb_2_4_0
  · exact Or.inl rb_3_4_0
  · exact Or.inl rb_4_4_0
  · exact Or.inr (rp_s (rp_s (rp_s (rp_s (rp_s (rp_s (rp_z (P := fun i => rp_chk 5 4 0 i = true)) rp_5_4_0_0) rp_5_4_0_1) rp_5_4_0_2) rp_5_4_0_3) rp_5_4_0_4) rp_5_4_0_5)
  · exact Or.inr (rp_s (rp_s (rp_s (rp_s (rp_s (rp_s (rp_z (P := fun i => rp_chk 6 4 0 i = true)) rp_6_4_0_0) rp_6_4_0_1) rp_6_4_0_2) rp_6_4_0_3) rp_6_4_0_4) rp_6_4_0_5)
  · exact Or.inl rb_1_1_1
  · exact Or.inl rb_2_1_1
  · exact Or.inl rb_3_1_1
  · exact Or.inl rb_4_1_1
  · exact Or.inl rb_5_1_1
  · exact Or.inl rb_6_1_1
  · exact Or.inl rb_1_2_1
  · exact Or.inl rb_2_2_1
  · exact Or.inl rb_3_2_1
  · exact Or.inl rb_4_2_1
  · exact Or.inl rb_5_2_1
  · exact Or.inl rb_6_2_1
  · exact Or.inl rb_1_3_1
  · exact Or.inl rb_2_3_1
  · exact Or.inl rb_3_3_1
  · exact Or.inl rb_4_3_1
  · exact Or.inl rb_5_3_1
  · exact Or.inl rb_6_3_1
  · exact Or.inl rb_1_4_1
  · exact Or.inl rb_2_4_1
  · exact Or.inr (rp_s (rp_s (rp_s (rp_s (rp_s (rp_s (rp_z (P := fun i => rp_chk 3 4 1 i = true)) rp_3_4_1_0) rp_3_4_1_1) rp_3_4_1_2) rp_3_4_1_3) rp_3_4_1_4) rp_3_4_1_5)
  · exact Or.inr (rp_s (rp_s (rp_s (rp_s (rp_s (rp_s (rp_z (P := fun i => rp_chk 4 4 1 i = true)) rp_4_4_1_0) rp_4_4_1_1) rp_4_4_1_2) rp_4_4_1_3) rp_4_4_1_4) rp_4_4_1_5)
  · exact Or.inr (rp_s (rp_s (rp_s (rp_s (rp_s (rp_s (rp_z (P := fun i => rp_chk 5 4 1 i = true)) rp_5_4_1_0) rp_5_4_1_1) rp_5_4_1_2) rp_5_4_1_3) rp_5_4_1_4) rp_5_4_1_5)
  · exact Or.inr (rp_s (rp_s (rp_s (rp_s (rp_s (rp_s (rp_z (P := fun i => rp_chk 6 4 1 i = true)) rp_6_4_1_0) rp_6_4_1_1) rp_6_4_1_2) rp_6_4_1_3) rp_6_4_1_4) rp_6_4_1_5)
theorem rc_all : ∀ S D a : Nat, 1 ≤ S → S ≤ 6 → 1 ≤ D → D ≤ 4 → a ≤ 1 → rt_chk tf_128 S D a 1 931 299 = true := by
  intro S D a h1 h2 h3 h4 h5
  have hS : S = 1 ∨ S = 2 ∨ S = 3 ∨ S = 4 ∨ S = 5 ∨ S = 6 := by omega
  have hD : D = 1 ∨ D = 2 ∨ D = 3 ∨ D = 4 := by omega
  have ha : a = 0 ∨ a = 1 := by omega
  rcases ha with rfl | rfl <;> rcases hD with rfl | rfl | rfl | rfl <;> rcases hS with rfl | rfl | rfl | rfl | rfl | rfl
  · exact rc_1_1_0
  · exact rc_2_1_0
  · exact rc_3_1_0
  · exact rc_4_1_0
  · exact rc_5_1_0
  · exact rc_6_1_0
  · exact rc_1_2_0
  · exact rc_2_2_0
  · exact rc_3_2_0
  · exact rc_4_2_0
  · exact rc_5_2_0
  · exact rc_6_2_0
  · exact rc_1_3_0
  · exact rc_2_3_0
  · exact rc_3_3_0
  · exact rc_4_3_0
  · exact rc_5_3_0
  · exact rc_6_3_0
  · exact rc_1_4_0
  · exact rc_2_4_0
  · exact rc_3_4_0
  · exact rc_4_4_0
  · exact rc_5_4_0
  · exact rc_6_4_0
  · exact rc_1_1_1
  · exact rc_2_1_1
  · exact rc_3_1_1
  · exact rc_4_1_1
  · exact rc_5_1_1
  · exact rc_6_1_1
  · exact rc_1_2_1
  · exact rc_2_2_1
  · exact rc_3_2_1
  · exact rc_4_2_1
  · exact rc_5_2_1
  · exact rc_6_2_1
  · exact rc_1_3_1
  · exact rc_2_3_1
  · exact rc_3_3_1
  · exact rc_4_3_1
  · exact rc_5_3_1
  · exact rc_6_3_1
  · exact rc_1_4_1
  · exact rc_2_4_1
  · exact rc_3_4_1
  · exact rc_4_4_1
  · exact rc_5_4_1
  · exact rc_6_4_1
end RNKZ
