section RNL2
theorem rm_ok_up {dl a b : Nat} {mp : List (Nat × List Nat)} {S T : rn_S} (h : rm_ok dl mp S T = true) : rm_ok dl mp (rn_up a b S) (rn_up a b T) = true := by
  obtain ⟨vs, h1, nx, pc, al, st, c1, z1⟩ := S
  obtain ⟨vs2, h2, nx2, pc2, al2, st2, c2, z2⟩ := T
  unfold rm_ok at h ⊢
  dsimp only [rn_up] at h ⊢
  cases hw : rm_w0 h1 with
  | none => rw [hw] at h; cases h
  | some w0 =>
    rw [hw] at h
    dsimp only at h ⊢
    rw [Bool.and_eq_true, Bool.and_eq_true, Bool.and_eq_true, Bool.and_eq_true, Bool.and_eq_true] at h ⊢
    obtain ⟨⟨⟨⟨⟨k1, k2⟩, k3⟩, k4⟩, k5⟩, k6⟩ := h
    exact ⟨⟨⟨⟨⟨k1, rn_ble k2 fun _ => by omega⟩, rn_ble k3 fun _ => by omega⟩, k4⟩, k5⟩, k6⟩
theorem rt_st00 {mp : List (Nat × List Nat)} (h : rt_st0 0 mp = true) (f : Nat → Nat) : rm_v mp f 0 = f 0 := by
  unfold rt_st0 at h
  unfold rm_v
  cases hm : rm_get 0 mp with
  | none => rfl
  | some m => rw [hm] at h; cases h
theorem rt_st01 {mp : List (Nat × List Nat)} (h : rt_st0 1 mp = true) {f : Nat → Nat} (hf : f 0 < 50) : rm_v mp f 0 = f 0 + 1 := by
  unfold rt_st0 at h
  unfold rm_v
  cases hm : rm_get 0 mp with
  | none => rw [hm] at h; cases h
  | some m =>
    rw [hm] at h
    dsimp only at h ⊢
    rw [Bool.and_eq_true] at h
    have h3 := List.all_eq_true.mp h.2 (f 0) (List.mem_range.mpr hf)
    cases ht : m[f 0]? with
    | none => rw [ht] at h3; cases h3
    | some k =>
      rw [ht] at h3
      exact Nat.eq_of_beq_eq_true h3
theorem mm_127 : MM 127 = MM 69 := rfl
theorem mm_128 : MM 128 = MM 69 := rfl
/-- sleeping's loop -/
theorem rt_loop {p : Program} {l : Launch} {e : Env} {R : Room} {s : State} {m : MethodId} {args : Array Value} {below : List Frame} {meth : Method} {c : Code} {D0 : va_G} {cA : Nat → ClassId} {N0 : Nat} {E0 : rn_E} {Q : State → Prop}
    (hB : ∀ S D a : Nat, 1 ≤ S → S ≤ 6 → 1 ≤ D → D ≤ 4 → a ≤ 1 → rt_chk tf_127 S D a 0 299 931 = true) (hC : ∀ S D a : Nat, 1 ≤ S → S ≤ 6 → 1 ≤ D → D ≤ 4 → a ≤ 1 → rt_chk tf_128 S D a 1 931 299 = true)
    (hF : ∀ E : rn_E, E.2.2.1 ≤ 1000000 → E.2.2.2 = E0.2.2.2 → rn_Fr (MM 69).1.cls (MM 69).2.1 (MM 69).2.2.1 (rn_hh (MM 69)) 11 (MM 69).2.2.2.2.2.1 (MM 69).2.2.2.2.2.2 (p, l, e, R, s, m, args, below, meth, c, D0, cA, N0, E, ([], []), Q))
    (hE : ∀ (E : rn_E) (vs : List (List Nat)) (h : List rn_C) (nx : Nat), rn_End (MM 69).2.2.1 (MM 69).2.1 (MM 69).2.2.2.2.2.1 (MM 69).2.2.2.2.2.2 (p, l, e, R, s, m, args, below, meth, c, D0, cA, N0, E, ([], []), Q) (vs, h, nx, .inl (some (.inl (1, 1))))) {S D : Nat} (hS1 : 1 ≤ S) (hS2 : S ≤ 6) (hD1 : 1 ≤ D) (hD2 : D ≤ 4) :
    ∀ (k : Nat) (E : rn_E) (a x y : Nat), a ≤ 1 → E.1 0 + k = 50 → E.2.2.1 + 6 * k + 6 ≤ 1000000 → E.2.2.2 = E0.2.2.2 → x + 600 * k + 600 ≤ (MM 69).2.2.2.2.2.1 → y + 6000 * k + 6000 ≤ (MM 69).2.2.2.2.2.2 →
      rn_W (MM 69).2.2.1 (p, l, e, R, s, m, args, below, meth, c, D0, cA, N0, E, ([], []), Q) (rn_up x y (rt_T S D a 299 0 0)) := by
  intro k
  induction k with
  | zero => sorry
  | succ k ih => sorry
end RNL2
