section RNL2
theorem rm_ok_up {dl a b : Nat} {mp : List (Nat × List Nat)} {S T : rn_S} (h : rm_ok dl mp S T = true) : rm_ok dl mp (rn_up a b S) (rn_up a b T) = true := by
  obtain ⟨vs, h1, nx, pc, al, st, c1, z1⟩ := S
  obtain ⟨vs2, h2, nx2, pc2, al2, st2, c2, z2⟩ := T
  unfold rm_ok at h ⊢
  dsimp only [rn_up] at h ⊢
  cases hw : rm_w0 h1 with
  | none => rw [hw] at h; cases h
  | some w0 =>
    rw [hw] at h
    dsimp only at h ⊢
    rw [Bool.and_eq_true, Bool.and_eq_true, Bool.and_eq_true, Bool.and_eq_true, Bool.and_eq_true] at h ⊢
    obtain ⟨⟨⟨⟨⟨k1, k2⟩, k3⟩, k4⟩, k5⟩, k6⟩ := h
    exact ⟨⟨⟨⟨⟨k1, rn_ble k2 fun _ => by omega⟩, rn_ble k3 fun _ => by omega⟩, k4⟩, k5⟩, k6⟩
theorem rt_st00 {mp : List (Nat × List Nat)} (h : rt_st0 0 mp = true) (f : Nat → Nat) : rm_v mp f 0 = f 0 := by
  unfold rt_st0 at h
  unfold rm_v
  cases hm : rm_get 0 mp with
  | none => rfl
  | some m => rw [hm] at h; cases h
theorem rt_st01 {mp : List (Nat × List Nat)} (h : rt_st0 1 mp = true) {f : Nat → Nat} (hf : f 0 < 50) : rm_v mp f 0 = f 0 + 1 := by
  unfold rt_st0 at h
  unfold rm_v
  cases hm : rm_get 0 mp with
  | none => rw [hm] at h; cases h
  | some m =>
    rw [hm] at h
    dsimp only at h ⊢
    rw [Bool.and_eq_true] at h
    have h3 := List.all_eq_true.mp h.2 (f 0) (List.mem_range.mpr hf)
    cases ht : m[f 0]? with
    | none => rw [ht] at h3; cases h3
    | some k =>
      rw [ht] at h3
      exact Nat.eq_of_beq_eq_true h3
theorem mm_127 : MM 127 = MM 69 := rfl
theorem mm_128 : MM 128 = MM 69 := rfl
theorem rt_ph {p : Program} {l : Launch} {e : Env} {R : Room} {s : State} {m : MethodId} {args : Array Value} {below : List Frame} {meth : Method} {c : Code} {D0 : va_G} {cA : Nat → ClassId} {N0 : Nat} {Q : State → Prop} {t : Nat → Option rn_T} {S D a ph pc1 pc2 x y : Nat} {E : rn_E} (hch : rt_chk t S D a ph pc1 pc2 = true)
    (hb : ∀ outs : List rn_O, rn_run1 MM tg_x gen0 100000 11 t 300 3000 100000 (rt_T S D a pc1 0 0) = some outs → (∀ o ∈ outs, rn_End (MM 69).2.2.1 (MM 69).2.1 (MM 69).2.2.2.2.2.1 (MM 69).2.2.2.2.2.2 (p, l, e, R, s, m, args, below, meth, c, D0, cA, N0, E, ([], []), Q) (rn_uo x y o)) → rn_W (MM 69).2.2.1 (p, l, e, R, s, m, args, below, meth, c, D0, cA, N0, E, ([], []), Q) (rn_up x y (rt_T S D a pc1 0 0)))
    (hE : ∀ (vs : List (List Nat)) (h : List rn_C) (nx : Nat), rn_End (MM 69).2.2.1 (MM 69).2.1 (MM 69).2.2.2.2.2.1 (MM 69).2.2.2.2.2.2 (p, l, e, R, s, m, args, below, meth, c, D0, cA, N0, E, ([], []), Q) (vs, h, nx, .inl (some (.inl (1, 1)))))
    (hk : ∀ (b : Nat) (mp : List (Nat × List Nat)) (L0 : Int64), b ≤ 1 → rt_st0 ph mp = true → rn_W (MM 69).2.2.1 (p, l, e, R, s, m, args, below, meth, c, D0, cA, N0, rm_E mp 3 E L0, ([], []), Q) (rn_up (x + 300) (y + 3000) (rt_T S D b pc2 0 0))) : rn_W (MM 69).2.2.1 (p, l, e, R, s, m, args, below, meth, c, D0, cA, N0, E, ([], []), Q) (rn_up x y (rt_T S D a pc1 0 0)) := by
  unfold rt_chk at hch
  cases hr : rn_run1 MM tg_x gen0 100000 11 t 300 3000 100000 (rt_T S D a pc1 0 0) with
  | none => rw [hr] at hch; cases hch
  | some os =>
    rw [hr] at hch
    refine hb os hr fun o ho => ?_
    have h1 := List.all_eq_true.mp hch o ho
    obtain ⟨vs, h, nx, r⟩ := o
    unfold rt_end at h1
    dsimp only at h1
    split at h1
    · rename_i u v
      rw [Bool.and_eq_true] at h1
      rw [rn_eqI_ok h1.1, rn_eqI_ok h1.2]
      exact hE vs h nx
    · rename_i pc al st c9 z9
      cases hm : rt_mp S D a ph h with
      | none => rw [hm] at h1; cases h1
      | some q =>
        obtain ⟨b, mp⟩ := q
        rw [hm] at h1
        dsimp only at h1
        rw [Bool.and_eq_true, Bool.and_eq_true] at h1
        obtain ⟨⟨k1, k2⟩, k3⟩ := h1
        have k4 := rm_ok_up (a := x) (b := y) k3
        show rn_W (MM 69).2.2.1 (p, l, e, R, s, m, args, below, meth, c, D0, cA, N0, E, ([], []), Q) (vs, h, nx, pc, al, st, c9 + x, z9 + y)
        refine rm_W (S := (vs, h, nx, pc, al, st, c9 + x, z9 + y)) k4 fun L0 _ => ?_
        have k5 := hk b mp L0 (Nat.le_of_ble_eq_true k1) k2
        have k5 : rn_W (MM 69).2.2.1 (p, l, e, R, s, m, args, below, meth, c, D0, cA, N0, rm_E mp 3 E L0, ([], []), Q) (rt_vs S D b pc2, rt_h S D b, 0, pc2, rt_loc S D b, [], 0 + (x + 300), 0 + (y + 3000)) := k5
        exact rn_W_wid (c := 300 + x) (z := 3000 + y) (by omega) (by omega) k5
    · cases h1
set_option maxRecDepth 8192 in
/-- sleeping's loop -/
theorem rt_loop {p : Program} {l : Launch} {e : Env} {R : Room} {s : State} {m : MethodId} {args : Array Value} {below : List Frame} {meth : Method} {c : Code} {D0 : va_G} {cA : Nat → ClassId} {N0 : Nat} {E0 : rn_E} {Q : State → Prop}
    (hB : ∀ S D a : Nat, 1 ≤ S → S ≤ 6 → 1 ≤ D → D ≤ 4 → a ≤ 1 → rt_chk tf_127 S D a 0 299 931 = true) (hC : ∀ S D a : Nat, 1 ≤ S → S ≤ 6 → 1 ≤ D → D ≤ 4 → a ≤ 1 → rt_chk tf_128 S D a 1 931 299 = true)
    (hF : ∀ E : rn_E, E.2.2.1 ≤ 1000000 → E.2.2.2 = E0.2.2.2 → rn_Fr (MM 69).1.cls (MM 69).2.1 (MM 69).2.2.1 (rn_hh (MM 69)) 11 (MM 69).2.2.2.2.2.1 (MM 69).2.2.2.2.2.2 (p, l, e, R, s, m, args, below, meth, c, D0, cA, N0, E, ([], []), Q))
    (hE : ∀ (E : rn_E) (vs : List (List Nat)) (h : List rn_C) (nx : Nat), rn_End (MM 69).2.2.1 (MM 69).2.1 (MM 69).2.2.2.2.2.1 (MM 69).2.2.2.2.2.2 (p, l, e, R, s, m, args, below, meth, c, D0, cA, N0, E, ([], []), Q) (vs, h, nx, .inl (some (.inl (1, 1))))) {MC MS : Nat} (hle1 : ∀ z : Nat, z ≤ MC → z ≤ (MM 69).2.2.2.2.2.1) (hle2 : ∀ z : Nat, z ≤ MS → z ≤ (MM 69).2.2.2.2.2.2) {S D : Nat} (hS1 : 1 ≤ S) (hS2 : S ≤ 6) (hD1 : 1 ≤ D) (hD2 : D ≤ 4) :
    ∀ (k : Nat) (E : rn_E) (a x y : Nat), a ≤ 1 → E.1 0 + k = 50 → E.2.2.1 + 6 * k + 6 ≤ 1000000 → E.2.2.2 = E0.2.2.2 → x + 600 * k + 600 ≤ MC → y + 6000 * k + 6000 ≤ MS →
      rn_W (MM 69).2.2.1 (p, l, e, R, s, m, args, below, meth, c, D0, cA, N0, E, ([], []), Q) (rn_up x y (rt_T S D a 299 0 0)) := by
  have stepB : ∀ (E : rn_E) (a x y : Nat), a ≤ 1 → E.2.2.1 ≤ 1000000 → E.2.2.2 = E0.2.2.2 → x + 300 ≤ MC → y + 3000 ≤ MS →
      (∀ (b : Nat) (mp : List (Nat × List Nat)) (L0 : Int64), b ≤ 1 → rt_st0 0 mp = true → rn_W (MM 69).2.2.1 (p, l, e, R, s, m, args, below, meth, c, D0, cA, N0, rm_E mp 3 E L0, ([], []), Q) (rn_up (x + 300) (y + 3000) (rt_T S D b 931 0 0))) → rn_W (MM 69).2.2.1 (p, l, e, R, s, m, args, below, meth, c, D0, cA, N0, E, ([], []), Q) (rn_up x y (rt_T S D a 299 0 0)) := by
    intro E a x y ha ht he hx hy hk
    refine rt_ph (hB S D a hS1 hS2 hD1 hD2 ha) (fun outs hr hEnd => ?_) (hE E) hk
    have key := rn_body_127 (n0 := 100000) (d := 11) (mc := 300) (ms := 3000) (a := x) (b := y) (by rw [mm_127]; exact hle1 (300 + x) (by omega)) (by rw [mm_127]; exact hle2 (3000 + y) (by omega)) hr (p, l, e, R, s, m, args, below, meth, c, D0, cA, N0, E, ([], []), Q) (by rw [mm_127]; exact hF E ht he) (by rw [mm_127]; exact hEnd)
    rw [mm_127] at key
    exact key
  have stepC : ∀ (E : rn_E) (a x y : Nat), a ≤ 1 → E.2.2.1 ≤ 1000000 → E.2.2.2 = E0.2.2.2 → x + 300 ≤ MC → y + 3000 ≤ MS →
      (∀ (b : Nat) (mp : List (Nat × List Nat)) (L0 : Int64), b ≤ 1 → rt_st0 1 mp = true → rn_W (MM 69).2.2.1 (p, l, e, R, s, m, args, below, meth, c, D0, cA, N0, rm_E mp 3 E L0, ([], []), Q) (rn_up (x + 300) (y + 3000) (rt_T S D b 299 0 0))) → rn_W (MM 69).2.2.1 (p, l, e, R, s, m, args, below, meth, c, D0, cA, N0, E, ([], []), Q) (rn_up x y (rt_T S D a 931 0 0)) := by
    intro E a x y ha ht he hx hy hk
    refine rt_ph (hC S D a hS1 hS2 hD1 hD2 ha) (fun outs hr hEnd => ?_) (hE E) hk
    have key := rn_body_128 (n0 := 100000) (d := 11) (mc := 300) (ms := 3000) (a := x) (b := y) (by rw [mm_128]; exact hle1 (300 + x) (by omega)) (by rw [mm_128]; exact hle2 (3000 + y) (by omega)) hr (p, l, e, R, s, m, args, below, meth, c, D0, cA, N0, E, ([], []), Q) (by rw [mm_128]; exact hF E ht he) (by rw [mm_128]; exact hEnd)
    rw [mm_128] at key
    exact key
  intro k
  induction k with
  | zero =>
    intro E a x y ha h0 ht he hx hy
    refine stepB E a x y ha (by omega) he (by omega) (by omega) fun b mp L0 hb hst => ?_
    intro G ws H locs ls stk hR
    have h1 : rm_v mp E.1 0 ∈ List.range 50 := hR.2.1 0 (List.range 50) rfl
    rw [rt_st00 hst, List.mem_range] at h1
    omega
  | succ k ih =>
    intro E a x y ha h0 ht he hx hy
    rw [Nat.mul_succ] at ht hx hy
    generalize 600 * k = u at hx ih
    generalize 6000 * k = v at hy ih
    generalize 6 * k = w at ht ih
    refine stepB E a x y ha (by omega) he (by omega) (by omega) fun b mp L0 hb hst => ?_
    have e1 : (rm_E mp 3 E L0).1 0 = E.1 0 := rt_st00 hst E.1
    have e2 : (rm_E mp 3 E L0).2.2.1 = E.2.2.1 + 3 := rfl
    refine stepC (rm_E mp 3 E L0) b (x + 300) (y + 3000) hb (by omega) he (by omega) (by omega) fun b2 mp2 L2 hb2 hst2 => ?_
    have e3 : (rm_E mp2 3 (rm_E mp 3 E L0) L2).1 0 = (rm_E mp 3 E L0).1 0 + 1 := rt_st01 hst2 (by omega)
    have e4 : (rm_E mp2 3 (rm_E mp 3 E L0) L2).2.2.1 = E.2.2.1 + 3 + 3 := rfl
    exact ih _ b2 (x + 300 + 300) (y + 3000 + 3000) hb2 (by omega) (by omega) he (by omega) (by omega)
end RNL2
