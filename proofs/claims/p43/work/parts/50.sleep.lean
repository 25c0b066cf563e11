section RNSL
theorem mm_c69 : (MM 69).2.2.2.2.2.1 = 300000 := by decide +kernel
theorem mm_z69 : (MM 69).2.2.2.2.2.2 = 3000000 := by decide +kernel
theorem mm_131 : MM 131 = MM 69 := rfl
set_option maxRecDepth 16384 in
/-- where the loop begins -/
theorem rt_tail {o : rn_O} (h1 : ra_end 300 3000 o = true) {p : Program} {l : Launch} {e : Env} {R : Room} {s : State} {m : MethodId} {args : Array Value} {below : List Frame} {meth : Method} {c : Code} {D0 : va_G} {cA : Nat → ClassId} {N0 : Nat} {E0 : rn_E} {Q : State → Prop} (ht : E0.2.2.1 = 0)
    (hF : ∀ E : rn_E, E.2.2.1 ≤ 1000000 → E.2.2.2 = E0.2.2.2 → rn_Fr (MM 69).1.cls (MM 69).2.1 (MM 69).2.2.1 (rn_hh (MM 69)) 11 (MM 69).2.2.2.2.2.1 (MM 69).2.2.2.2.2.2 (p, l, e, R, s, m, args, below, meth, c, D0, cA, N0, E, ([], []), Q))
    (hE : ∀ (E : rn_E) (vs : List (List Nat)) (h : List rn_C) (nx : Nat), rn_End (MM 69).2.2.1 (MM 69).2.1 (MM 69).2.2.2.2.2.1 (MM 69).2.2.2.2.2.2 (p, l, e, R, s, m, args, below, meth, c, D0, cA, N0, E, ([], []), Q) (vs, h, nx, .inl (some (.inl (1, 1))))) : rn_End (MM 69).2.2.1 (MM 69).2.1 (MM 69).2.2.2.2.2.1 (MM 69).2.2.2.2.2.2 (p, l, e, R, s, m, args, below, meth, c, D0, cA, N0, E0, ([], []), Q) o := by
  have hle1 : ∀ z : Nat, z ≤ 300000 → z ≤ (MM 69).2.2.2.2.2.1 := fun z h => by rw [mm_c69]; exact h
  have hle2 : ∀ z : Nat, z ≤ 3000000 → z ≤ (MM 69).2.2.2.2.2.2 := fun z h => by rw [mm_z69]; exact h
  obtain ⟨vs, h, nx, r⟩ := o
  unfold ra_end at h1
  dsimp only at h1
  split at h1
  · rename_i pc al st c9 z9
    cases hsd : ra_sd al with
    | none => rw [hsd] at h1; cases h1
    | some q =>
      obtain ⟨S, D⟩ := q
      rw [hsd] at h1
      dsimp only at h1
      cases hpi : ra_pi h al (ra_paths S D) [] with
      | none => rw [hpi] at h1; cases h1
      | some pi =>
        rw [hpi] at h1
        dsimp only at h1
        cases hS : ra_S pi (vs, h, nx, pc, al, st, c9, z9) with
        | none => rw [hS] at h1; cases h1
        | some S' =>
          rw [hS] at h1
          dsimp only at h1
          rw [Bool.and_eq_true, Bool.and_eq_true, Bool.and_eq_true, Bool.and_eq_true] at h1
          obtain ⟨⟨⟨⟨k1, k2⟩, k3⟩, k4⟩, k5⟩ := h1
          show rn_W (MM 69).2.2.1 (p, l, e, R, s, m, args, below, meth, c, D0, cA, N0, E0, ([], []), Q) (vs, h, nx, pc, al, st, c9, z9)
          refine ra_W hS ?_
          refine rm_W k5 fun L0 _ => ?_
          have e1 : (rm_E (ra_mp S D S'.2.1) 3 E0 L0).1 0 = 0 := by
            show rm_v (ra_mp S D S'.2.1) E0.1 0 = 0
            unfold rm_v
            show ([0][E0.1 0]?).getD 0 = 0
            cases E0.1 0 with
            | zero => rfl
            | succ n => rfl
          have e2 : (rm_E (ra_mp S D S'.2.1) 3 E0 L0).2.2.1 = E0.2.2.1 + 3 := rfl
          have key := rt_loop2 (E0 := E0) rb_all rc_all hF hE hle1 hle2 (Nat.le_of_ble_eq_true k1) (Nat.le_of_ble_eq_true k2) (Nat.le_of_ble_eq_true k3) (Nat.le_of_ble_eq_true k4) 50 (rm_E (ra_mp S D S'.2.1) 3 E0 L0) 0 300 3000 (Nat.zero_le _) (by rw [e1]) (by rw [e2, ht]; decide) rfl (by decide) (by decide)
          have key : rn_W (MM 69).2.2.1 (p, l, e, R, s, m, args, below, meth, c, D0, cA, N0, rm_E (ra_mp S D S'.2.1) 3 E0 L0, ([], []), Q) (rt_vs S D 0 299, rt_h S D 0, 0, 299, rt_loc S D 0, [], 0 + 300, 0 + 3000) := key
          exact rn_W_wid (c := 300) (z := 3000) (by omega) (by omega) key
  · cases h1
set_option maxRecDepth 16384 in
theorem rt_lv {p : Program} {l : Launch} {e : Env} {R : Room} {s : State} {m : MethodId} {args : Array Value} {below : List Frame} {meth : Method} {c : Code} {D0 : va_G} {cA : Nat → ClassId} {N0 : Nat} {E0 : rn_E} {Q : State → Prop} (ht : E0.2.2.1 = 0)
    (hF : ∀ E : rn_E, E.2.2.1 ≤ 1000000 → E.2.2.2 = E0.2.2.2 → rn_Fr (MM 69).1.cls (MM 69).2.1 (MM 69).2.2.1 (rn_hh (MM 69)) 11 (MM 69).2.2.2.2.2.1 (MM 69).2.2.2.2.2.2 (p, l, e, R, s, m, args, below, meth, c, D0, cA, N0, E, ([], []), Q))
    (hE : ∀ (E : rn_E) (vs : List (List Nat)) (h : List rn_C) (nx : Nat), rn_End (MM 69).2.2.1 (MM 69).2.1 (MM 69).2.2.2.2.2.1 (MM 69).2.2.2.2.2.2 (p, l, e, R, s, m, args, below, meth, c, D0, cA, N0, E, ([], []), Q) (vs, h, nx, .inl (some (.inl (1, 1))))) : ∀ (n : Nat) (S : rn_S), ra_lv n S = true → rn_W (MM 69).2.2.1 (p, l, e, R, s, m, args, below, meth, c, D0, cA, N0, E0, ([], []), Q) S := by
  have hF0 := hF E0 (by rw [ht]; exact Nat.zero_le _) rfl
  have run : ∀ (S : rn_S) (f : rn_O → Bool), ra_all f (ra_r S) = true → (∀ o : rn_O, f o = true → rn_End (MM 69).2.2.1 (MM 69).2.1 (MM 69).2.2.2.2.2.1 (MM 69).2.2.2.2.2.2 (p, l, e, R, s, m, args, below, meth, c, D0, cA, N0, E0, ([], []), Q) o) → rn_W (MM 69).2.2.1 (p, l, e, R, s, m, args, below, meth, c, D0, cA, N0, E0, ([], []), Q) S := by
    intro S f hch hk
    obtain ⟨os, e0, hall⟩ := ra_all_ok hch
    have hr : rn_run0 MM tg_x gen0 100000 11 131 S = some os := e0
    have key := rn_goW (gen := gen0) (n := 100000) (d := 11) (mu := 131) hr (p, l, e, R, s, m, args, below, meth, c, D0, cA, N0, E0, ([], []), Q) (by rw [mm_131]; exact hF0) (by
      rw [mm_131]
      intro o ho
      exact hk o (hall o ho))
    rw [mm_131] at key
    exact key
  intro n
  induction n with
  | zero =>
    intro S h
    exact run S _ h fun o ho => rt_tail ho ht hF hE
  | succ n ih =>
    intro S h
    refine run S (ra_nx (ra_lv n)) h fun o ho => ?_
    obtain ⟨vs, hp, nx, r⟩ := o
    rcases r with r | r | q
    · cases ho
    · cases ho
    · exact ih (vs, hp, nx, q) ho
set_option maxRecDepth 16384 in
theorem rt_sleep0 {n : Nat} {S0 : rn_S} {o0 : Option (List rn_O)} (hch : ra_all (ra_nx (ra_lv n)) o0 = true) (hrun : rn_run0 MM tg_x gen0 100000 11 69 S0 = o0) {p : Program} {l : Launch} {e : Env} {R : Room} {s : State} {m : MethodId} {args : Array Value} {below : List Frame} {meth : Method} {c : Code} {D0 : va_G} {cA : Nat → ClassId} {N0 : Nat} {E0 : rn_E} {Q : State → Prop} (ht : E0.2.2.1 = 0)
    (hF : ∀ E : rn_E, E.2.2.1 ≤ 1000000 → E.2.2.2 = E0.2.2.2 → rn_Fr (MM 69).1.cls (MM 69).2.1 (MM 69).2.2.1 (rn_hh (MM 69)) 11 (MM 69).2.2.2.2.2.1 (MM 69).2.2.2.2.2.2 (p, l, e, R, s, m, args, below, meth, c, D0, cA, N0, E, ([], []), Q))
    (hE : ∀ (E : rn_E) (vs : List (List Nat)) (h : List rn_C) (nx : Nat), rn_End (MM 69).2.2.1 (MM 69).2.1 (MM 69).2.2.2.2.2.1 (MM 69).2.2.2.2.2.2 (p, l, e, R, s, m, args, below, meth, c, D0, cA, N0, E, ([], []), Q) (vs, h, nx, .inl (some (.inl (1, 1))))) : rn_W (MM 69).2.2.1 (p, l, e, R, s, m, args, below, meth, c, D0, cA, N0, E0, ([], []), Q) S0 := by
  obtain ⟨os, e0, hall⟩ := ra_all_ok hch
  have hr := hrun.trans e0
  clear hch hrun
  have hF0 := hF E0 (by rw [ht]; exact Nat.zero_le _) rfl
  refine rn_goW (gen := gen0) (n := 100000) (d := 11) (mu := 69) hr (p, l, e, R, s, m, args, below, meth, c, D0, cA, N0, E0, ([], []), Q) hF0 fun o ho => ?_
  clear hr
  have h1 := hall o ho
  obtain ⟨vs, hp, nx, r⟩ := o
  rcases r with r | r | q
  · cases h1
  · cases h1
  · exact rt_lv ht hF hE n (vs, hp, nx, q) h1
end RNSL
