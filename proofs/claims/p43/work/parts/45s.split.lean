section RNSP
/-! a step's first half, cut at its switch: each branch has a run of its own -/
noncomputable def rp_t (pc : Nat) : Option rn_T := @Bool.rec (fun _ => Option rn_T) (tf_127 pc) (some rn_cu) (Nat.beq pc 355 || Nat.beq pc 950)
theorem rp_t_ok (pc : Nat) (tr : rn_T) (h : rp_t pc = some tr) : rn_TS MM (MM 69).1.cls (MM 69).2.1 (MM 69).2.2.1 (rn_hh (MM 69)) pc tr ∧ rn_sh tr := by
  have h : @Bool.rec (fun _ => Option rn_T) (tf_127 pc) (some rn_cu) (Nat.beq pc 355 || Nat.beq pc 950) = some tr := h
  cases hb : (Nat.beq pc 355 || Nat.beq pc 950) with
  | true =>
    rw [hb] at h
    cases h
    exact ⟨rn_cu_ok, rn_sh_cu⟩
  | false =>
    rw [hb] at h
    exact ⟨tq_127 pc tr h, ts_127 pc tr h⟩
noncomputable def rp_chk (S D a i : Nat) : Bool := match rn_run1 MM tg_x gen0 100000 11 rp_t 300 3000 100000 (rt_T S D a 299 0 0) with
  | none => false
  | some os => Nat.ble os.length 6 && (match os[i]? with
    | none => true
    | some o => match o.2.2.2 with
      | .inr (.inr q) => (match rn_run1 MM tg_x gen0 100000 11 tf_127 300 3000 100000 (o.1, o.2.1, o.2.2.1, q) with
        | none => false
        | some os2 => os2.all (rt_end S D a 0 931 300 3000))
      | _ => rt_end S D a 0 931 300 3000 o)
theorem rt_end_ok {p : Program} {l : Launch} {e : Env} {R : Room} {s : State} {m : MethodId} {args : Array Value} {below : List Frame} {meth : Method} {c : Code} {D0 : va_G} {cA : Nat → ClassId} {N0 : Nat} {Q : State → Prop} {S D a ph pc2 x y : Nat} {E : rn_E}
    (hE : ∀ (vs : List (List Nat)) (h : List rn_C) (nx : Nat), rn_End (MM 69).2.2.1 (MM 69).2.1 (MM 69).2.2.2.2.2.1 (MM 69).2.2.2.2.2.2 (p, l, e, R, s, m, args, below, meth, c, D0, cA, N0, E, ([], []), Q) (vs, h, nx, .inl (some (.inl (1, 1)))))
    (hk : ∀ (b : Nat) (mp : List (Nat × List Nat)) (L0 : Int64), b ≤ 1 → rt_st0 ph mp = true → rn_W (MM 69).2.2.1 (p, l, e, R, s, m, args, below, meth, c, D0, cA, N0, rm_E mp 3 E L0, ([], []), Q) (rn_up (x + 300) (y + 3000) (rt_T S D b pc2 0 0))) {o : rn_O} (h1 : rt_end S D a ph pc2 300 3000 o = true) : rn_End (MM 69).2.2.1 (MM 69).2.1 (MM 69).2.2.2.2.2.1 (MM 69).2.2.2.2.2.2 (p, l, e, R, s, m, args, below, meth, c, D0, cA, N0, E, ([], []), Q) (rn_uo x y o) := by
  obtain ⟨vs, h, nx, r⟩ := o
  unfold rt_end at h1
  dsimp only at h1
  split at h1
  · rename_i u v
    rw [Bool.and_eq_true] at h1
    rw [rn_eqI_ok h1.1, rn_eqI_ok h1.2]
    exact hE vs h nx
  · rename_i pc al st c9 z9
    cases hm : rt_mp S D a ph h with
    | none => rw [hm] at h1; cases h1
    | some q =>
      obtain ⟨b, mp⟩ := q
      rw [hm] at h1
      dsimp only at h1
      rw [Bool.and_eq_true, Bool.and_eq_true] at h1
      obtain ⟨⟨k1, k2⟩, k3⟩ := h1
      have k4 := rm_ok_up (a := x) (b := y) k3
      show rn_W (MM 69).2.2.1 (p, l, e, R, s, m, args, below, meth, c, D0, cA, N0, E, ([], []), Q) (vs, h, nx, pc, al, st, c9 + x, z9 + y)
      refine rm_W (S := (vs, h, nx, pc, al, st, c9 + x, z9 + y)) k4 fun L0 _ => ?_
      have k5 := hk b mp L0 (Nat.le_of_ble_eq_true k1) k2
      have k5 : rn_W (MM 69).2.2.1 (p, l, e, R, s, m, args, below, meth, c, D0, cA, N0, rm_E mp 3 E L0, ([], []), Q) (rt_vs S D b pc2, rt_h S D b, 0, pc2, rt_loc S D b, [], 0 + (x + 300), 0 + (y + 3000)) := k5
      exact rn_W_wid (c := 300 + x) (z := 3000 + y) (by omega) (by omega) k5
  · cases h1
theorem rt_phS {p : Program} {l : Launch} {e : Env} {R : Room} {s : State} {m : MethodId} {args : Array Value} {below : List Frame} {meth : Method} {c : Code} {D0 : va_G} {cA : Nat → ClassId} {N0 : Nat} {Q : State → Prop} {S D a x y : Nat} {E : rn_E} (hch : ∀ i : Nat, i < 6 → rp_chk S D a i = true)
    (hb1 : ∀ outs : List rn_O, rn_run1 MM tg_x gen0 100000 11 rp_t 300 3000 100000 (rt_T S D a 299 0 0) = some outs → (∀ o ∈ outs, rn_End (MM 69).2.2.1 (MM 69).2.1 (MM 69).2.2.2.2.2.1 (MM 69).2.2.2.2.2.2 (p, l, e, R, s, m, args, below, meth, c, D0, cA, N0, E, ([], []), Q) (rn_uo x y o)) → rn_W (MM 69).2.2.1 (p, l, e, R, s, m, args, below, meth, c, D0, cA, N0, E, ([], []), Q) (rn_up x y (rt_T S D a 299 0 0)))
    (hb2 : ∀ (Z : rn_S) (outs : List rn_O), rn_run1 MM tg_x gen0 100000 11 tf_127 300 3000 100000 Z = some outs → (∀ o ∈ outs, rn_End (MM 69).2.2.1 (MM 69).2.1 (MM 69).2.2.2.2.2.1 (MM 69).2.2.2.2.2.2 (p, l, e, R, s, m, args, below, meth, c, D0, cA, N0, E, ([], []), Q) (rn_uo x y o)) → rn_W (MM 69).2.2.1 (p, l, e, R, s, m, args, below, meth, c, D0, cA, N0, E, ([], []), Q) (rn_up x y Z))
    (hE : ∀ (vs : List (List Nat)) (h : List rn_C) (nx : Nat), rn_End (MM 69).2.2.1 (MM 69).2.1 (MM 69).2.2.2.2.2.1 (MM 69).2.2.2.2.2.2 (p, l, e, R, s, m, args, below, meth, c, D0, cA, N0, E, ([], []), Q) (vs, h, nx, .inl (some (.inl (1, 1)))))
    (hk : ∀ (b : Nat) (mp : List (Nat × List Nat)) (L0 : Int64), b ≤ 1 → rt_st0 0 mp = true → rn_W (MM 69).2.2.1 (p, l, e, R, s, m, args, below, meth, c, D0, cA, N0, rm_E mp 3 E L0, ([], []), Q) (rn_up (x + 300) (y + 3000) (rt_T S D b 931 0 0))) : rn_W (MM 69).2.2.1 (p, l, e, R, s, m, args, below, meth, c, D0, cA, N0, E, ([], []), Q) (rn_up x y (rt_T S D a 299 0 0)) := by
  have key : ∀ i : Nat, i < 6 → rp_chk S D a i = true := hch
  unfold rp_chk at key
  cases hr : rn_run1 MM tg_x gen0 100000 11 rp_t 300 3000 100000 (rt_T S D a 299 0 0) with
  | none =>
    have h0 := key 0 (by decide)
    rw [hr] at h0
    cases h0
  | some os =>
    refine hb1 os hr fun o ho => ?_
    obtain ⟨i, hi⟩ := List.getElem?_of_mem ho
    have hlt : i < os.length := (List.getElem?_eq_some_iff.mp hi).1
    have hlen : os.length ≤ 6 := by
      have h0 := key 0 (by decide)
      rw [hr] at h0
      dsimp only at h0
      rw [Bool.and_eq_true] at h0
      exact Nat.le_of_ble_eq_true h0.1
    have h1 := key i (by omega)
    rw [hr] at h1
    dsimp only at h1
    rw [Bool.and_eq_true] at h1
    have h2 := h1.2
    rw [hi] at h2
    dsimp only at h2
    obtain ⟨vs, h, nx, r⟩ := o
    rcases r with r | r | q
    · exact rt_end_ok hE hk h2
    · exact rt_end_ok hE hk h2
    · dsimp only at h2
      cases hr2 : rn_run1 MM tg_x gen0 100000 11 tf_127 300 3000 100000 (vs, h, nx, q) with
      | none => rw [hr2] at h2; cases h2
      | some os2 =>
        rw [hr2] at h2
        have h3 := hb2 (vs, h, nx, q) os2 hr2 fun o2 ho2 => rt_end_ok hE hk (List.all_eq_true.mp h2 o2 ho2)
        exact h3
set_option maxRecDepth 8192 in
/-- sleeping's loop -/
theorem rt_loop2 {p : Program} {l : Launch} {e : Env} {R : Room} {s : State} {m : MethodId} {args : Array Value} {below : List Frame} {meth : Method} {c : Code} {D0 : va_G} {cA : Nat → ClassId} {N0 : Nat} {E0 : rn_E} {Q : State → Prop}
    (hB : ∀ S D a : Nat, 1 ≤ S → S ≤ 6 → 1 ≤ D → D ≤ 4 → a ≤ 1 → rt_chk tf_127 S D a 0 299 931 = true ∨ ∀ i : Nat, i < 6 → rp_chk S D a i = true) (hC : ∀ S D a : Nat, 1 ≤ S → S ≤ 6 → 1 ≤ D → D ≤ 4 → a ≤ 1 → rt_chk tf_128 S D a 1 931 299 = true)
    (hF : ∀ E : rn_E, E.2.2.1 ≤ 1000000 → E.2.2.2 = E0.2.2.2 → rn_Fr (MM 69).1.cls (MM 69).2.1 (MM 69).2.2.1 (rn_hh (MM 69)) 11 (MM 69).2.2.2.2.2.1 (MM 69).2.2.2.2.2.2 (p, l, e, R, s, m, args, below, meth, c, D0, cA, N0, E, ([], []), Q))
    (hE : ∀ (E : rn_E) (vs : List (List Nat)) (h : List rn_C) (nx : Nat), rn_End (MM 69).2.2.1 (MM 69).2.1 (MM 69).2.2.2.2.2.1 (MM 69).2.2.2.2.2.2 (p, l, e, R, s, m, args, below, meth, c, D0, cA, N0, E, ([], []), Q) (vs, h, nx, .inl (some (.inl (1, 1))))) {MC MS : Nat} (hle1 : ∀ z : Nat, z ≤ MC → z ≤ (MM 69).2.2.2.2.2.1) (hle2 : ∀ z : Nat, z ≤ MS → z ≤ (MM 69).2.2.2.2.2.2) {S D : Nat} (hS1 : 1 ≤ S) (hS2 : S ≤ 6) (hD1 : 1 ≤ D) (hD2 : D ≤ 4) :
    ∀ (k : Nat) (E : rn_E) (a x y : Nat), a ≤ 1 → E.1 0 + k = 50 → E.2.2.1 + 6 * k + 6 ≤ 1000000 → E.2.2.2 = E0.2.2.2 → x + 600 * k + 600 ≤ MC → y + 6000 * k + 6000 ≤ MS →
      rn_W (MM 69).2.2.1 (p, l, e, R, s, m, args, below, meth, c, D0, cA, N0, E, ([], []), Q) (rn_up x y (rt_T S D a 299 0 0)) := by
  have stepB : ∀ (E : rn_E) (a x y : Nat), a ≤ 1 → E.2.2.1 ≤ 1000000 → E.2.2.2 = E0.2.2.2 → x + 300 ≤ MC → y + 3000 ≤ MS →
      (∀ (b : Nat) (mp : List (Nat × List Nat)) (L0 : Int64), b ≤ 1 → rt_st0 0 mp = true → rn_W (MM 69).2.2.1 (p, l, e, R, s, m, args, below, meth, c, D0, cA, N0, rm_E mp 3 E L0, ([], []), Q) (rn_up (x + 300) (y + 3000) (rt_T S D b 931 0 0))) → rn_W (MM 69).2.2.1 (p, l, e, R, s, m, args, below, meth, c, D0, cA, N0, E, ([], []), Q) (rn_up x y (rt_T S D a 299 0 0)) := by
    intro E a x y ha ht he hx hy hk
    rcases hB S D a hS1 hS2 hD1 hD2 ha with hb | hb
    · refine rt_ph hb (fun outs hr hEnd => ?_) (hE E) hk
      have key := rn_body_127 (n0 := 100000) (d := 11) (mc := 300) (ms := 3000) (a := x) (b := y) (by rw [mm_127]; exact hle1 (300 + x) (by omega)) (by rw [mm_127]; exact hle2 (3000 + y) (by omega)) hr (p, l, e, R, s, m, args, below, meth, c, D0, cA, N0, E, ([], []), Q) (by rw [mm_127]; exact hF E ht he) (by rw [mm_127]; exact hEnd)
      rw [mm_127] at key
      exact key
    · have body : ∀ (t : Nat → Option rn_T), (∀ (pc : Nat) (tr : rn_T), t pc = some tr → rn_TS MM (MM 69).1.cls (MM 69).2.1 (MM 69).2.2.1 (rn_hh (MM 69)) pc tr ∧ rn_sh tr) → ∀ (Z : rn_S) (outs : List rn_O), rn_run1 MM tg_x gen0 100000 11 t 300 3000 100000 Z = some outs → (∀ o ∈ outs, rn_End (MM 69).2.2.1 (MM 69).2.1 (MM 69).2.2.2.2.2.1 (MM 69).2.2.2.2.2.2 (p, l, e, R, s, m, args, below, meth, c, D0, cA, N0, E, ([], []), Q) (rn_uo x y o)) → rn_W (MM 69).2.2.1 (p, l, e, R, s, m, args, below, meth, c, D0, cA, N0, E, ([], []), Q) (rn_up x y Z) := by
        intro t ht9 Z outs hr hEnd
        exact rn_sound1 (T := tg_x) (fun mu pc tr h => th_x mu pc tr h) (fun mu _ _ => rn_plain mu) ht9 (n0 := 100000) (d := 11) (mc := 300) (ms := 3000) (a := x) (b := y) (hle1 (300 + x) (by omega)) (hle2 (3000 + y) (by omega)) 100000 Z outs hr (p, l, e, R, s, m, args, below, meth, c, D0, cA, N0, E, ([], []), Q) (hF E ht he) hEnd
      exact rt_phS hb (fun outs hr hEnd => body rp_t rp_t_ok _ outs hr hEnd) (fun Z outs hr hEnd => body tf_127 (fun pc tr h => ⟨tq_127 pc tr h, ts_127 pc tr h⟩) Z outs hr hEnd) (hE E) hk
  have stepC : ∀ (E : rn_E) (a x y : Nat), a ≤ 1 → E.2.2.1 ≤ 1000000 → E.2.2.2 = E0.2.2.2 → x + 300 ≤ MC → y + 3000 ≤ MS →
      (∀ (b : Nat) (mp : List (Nat × List Nat)) (L0 : Int64), b ≤ 1 → rt_st0 1 mp = true → rn_W (MM 69).2.2.1 (p, l, e, R, s, m, args, below, meth, c, D0, cA, N0, rm_E mp 3 E L0, ([], []), Q) (rn_up (x + 300) (y + 3000) (rt_T S D b 299 0 0))) → rn_W (MM 69).2.2.1 (p, l, e, R, s, m, args, below, meth, c, D0, cA, N0, E, ([], []), Q) (rn_up x y (rt_T S D a 931 0 0)) := by
    intro E a x y ha ht he hx hy hk
    refine rt_ph (hC S D a hS1 hS2 hD1 hD2 ha) (fun outs hr hEnd => ?_) (hE E) hk
    have key := rn_body_128 (n0 := 100000) (d := 11) (mc := 300) (ms := 3000) (a := x) (b := y) (by rw [mm_128]; exact hle1 (300 + x) (by omega)) (by rw [mm_128]; exact hle2 (3000 + y) (by omega)) hr (p, l, e, R, s, m, args, below, meth, c, D0, cA, N0, E, ([], []), Q) (by rw [mm_128]; exact hF E ht he) (by rw [mm_128]; exact hEnd)
    rw [mm_128] at key
    exact key
  intro k
  induction k with
  | zero =>
    intro E a x y ha h0 ht he hx hy
    refine stepB E a x y ha (by omega) he (by omega) (by omega) fun b mp L0 hb hst => ?_
    intro G ws H locs ls stk hR
    have h1 : rm_v mp E.1 0 ∈ List.range 50 := hR.2.1 0 (List.range 50) rfl
    rw [rt_st00 hst, List.mem_range] at h1
    omega
  | succ k ih =>
    intro E a x y ha h0 ht he hx hy
    rw [Nat.mul_succ] at ht hx hy
    generalize 600 * k = u at hx ih
    generalize 6000 * k = v at hy ih
    generalize 6 * k = w at ht ih
    refine stepB E a x y ha (by omega) he (by omega) (by omega) fun b mp L0 hb hst => ?_
    have e1 : (rm_E mp 3 E L0).1 0 = E.1 0 := rt_st00 hst E.1
    have e2 : (rm_E mp 3 E L0).2.2.1 = E.2.2.1 + 3 := rfl
    refine stepC (rm_E mp 3 E L0) b (x + 300) (y + 3000) hb (by omega) he (by omega) (by omega) fun b2 mp2 L2 hb2 hst2 => ?_
    have e3 : (rm_E mp2 3 (rm_E mp 3 E L0) L2).1 0 = (rm_E mp 3 E L0).1 0 + 1 := rt_st01 hst2 (by omega)
    have e4 : (rm_E mp2 3 (rm_E mp 3 E L0) L2).2.2.1 = E.2.2.1 + 3 + 3 := rfl
    exact ih _ b2 (x + 300 + 300) (y + 3000 + 3000) hb2 (by omega) (by omega) he (by omega) (by omega)
end RNSP
