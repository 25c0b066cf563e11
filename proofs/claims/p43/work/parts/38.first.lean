section RNFI
/-! sleeping's beginning: what it has made, put in the templates' order -/
def ra_el (h : List rn_C) (j f : Nat) : Option rn_V := match h[j]? with
  | some (.inl x) => x.2[f]?
  | some (.inr o) => o.2[f]?
  | none => none
def ra_rf (a : Option rn_V) : Option Nat := match a with
  | some (.inr (.inr (.inl k))) => some k
  | _ => none
/-- where things are found: (0, n, 0) local n; (1, j, f) field or place f of the j-th found -/
def ra_pi (h : List rn_C) (al : List (Nat × rn_V)) : List (Nat × Nat × Nat) → List Nat → Option (List Nat)
  | [], pi => some pi
  | q :: l, pi => match cond (Nat.beq q.1 0) (ra_rf (rn_find q.2.1 al)) (match pi[q.2.1]? with
      | some j => ra_rf (ra_el h j q.2.2)
      | none => none) with
    | some k => ra_pi h al l (pi ++ [k])
    | none => none
def ra_paths (S D : Nat) : List (Nat × Nat × Nat) :=
  [(0, 1, 0), (1, 0, 0), (1, 0, 1), (1, 0, 2), (1, 0, 3), (1, 0, 4), (1, 0, 5), (1, 1, 1), (1, 2, 1), (1, 3, 1), (1, 5, 1), (1, 7, 0), (1, 11, 2), (1, 11, 3), (1, 11, 4), (1, 11, 5), (1, 12, 1), (1, 13, 1), (1, 16, 0), (1, 8, 0), (1, 19, 3), (1, 20, 1), (0, 4, 0), (0, 5, 0), (0, 6, 0), (0, 7, 0), (0, 8, 0)]
  ++ ((List.range D).map fun k => [(1, 9, k), (1, 27 + 4 * k, 3), (1, 28 + 4 * k, 1), (1, 27 + 4 * k, 4)]).flatten
  ++ (List.range S).map fun j => (1, 10, j)
def ra_sd (al : List (Nat × rn_V)) : Option (Nat × Nat) := match rn_find 2 al with
  | some (.inl (x, _)) => match rn_find 3 al with
    | some (.inl (y, _)) => some (x.toNat, y.toNat)
    | _ => none
  | _ => none
/-- which devices are awake, is the domain kept -/
def ra_bits : List rn_V → Nat
  | [] => 0
  | a :: l => (rt_val a 0).toNat + 2 * ra_bits l
def ra_bt (c : Option rn_C) : Nat := match c with
  | some (.inl x) => ra_bits x.2
  | _ => 0
def ra_mp (S D : Nat) (h : List rn_C) : List (Nat × List Nat) :=
  let bits := ra_bt h[22]?
  let kept := match ra_el h 19 2 with
    | some v => (rt_val v 0).toNat
    | none => 0
  [(0, [0]), (1, [bits + 2 * 2 ^ D * kept]), (2, [0])] ++ (List.range S).map fun j => (3 + j, [0])
def ra_end (dc dz : Nat) (o : rn_O) : Bool := match o.2.2.2 with
  | .inr (.inr (p, al, st, c, z)) => match ra_sd al with
    | none => false
    | some (S, D) => match ra_pi o.2.1 al (ra_paths S D) [] with
      | none => false
      | some pi => match ra_S pi (o.1, o.2.1, o.2.2.1, p, al, st, c, z) with
        | none => false
        | some S' => Nat.ble 1 S && Nat.ble S 6 && Nat.ble 1 D && Nat.ble D 4 && rm_ok 3 (ra_mp S D S'.2.1) S' (rt_T S D 0 299 dc dz)
  | _ => false
end RNFI
section RNFI2
def ra_all (f : rn_O → Bool) (o : Option (List rn_O)) : Bool := match o with
  | none => false
  | some os => os.all f
theorem ra_all_ok {f : rn_O → Bool} {o : Option (List rn_O)} (h : ra_all f o = true) : ∃ os, o = some os ∧ ∀ x ∈ os, f x = true := by
  cases o with
  | none => cases h
  | some os => exact ⟨os, rfl, List.all_eq_true.mp h⟩
/-- where sleeping begins -/
def ra_in : rn_S := (List.replicate 9 [0], [], 0, 0, [(0, .inr (.inr (.inr (.inl 2))))], [], 0, 0)
/-- .. with the numbers of sources and devices known, and a chip -/
def ra_S0 (S D : Nat) : rn_S := (List.replicate 9 [0], [.inr (8, [rt_r 1, rt_r 2, rt_r 3, rt_r 4, rt_r 5, rt_r 6, rt_l0, rt_c 0, rt_c 0, rt_c (-1)]), rt_nol, rt_nol, rt_nol, rt_nol, rt_nol, .inl (1, rt_rep 6 rt_l0)], 0, 33, [(3, rt_c (Int.ofNat D)), (2, rt_c (Int.ofNat S)), (1, rt_r 0), (0, .inr (.inr (.inr (.inl 2))))], [], 7, 45)
def ra_end0 (o : rn_O) : Bool := match o.2.2.2 with
  | .inr (.inr (p, al, st, c, z)) => match ra_sd al with
    | none => false
    | some (S, D) => Nat.ble 1 S && Nat.ble S 6 && Nat.ble 1 D && Nat.ble D 4 && rm_ok 0 [] (o.1, o.2.1, o.2.2.1, p, al, st, c, z) (ra_S0 S D)
  | _ => false
noncomputable def ra_chk0 : Bool := ra_all ra_end0 (rn_run0 MM tg_x gen0 100000 11 129 ra_in)
noncomputable def ra_chk (S D : Nat) : Bool := ra_all (ra_end 300 3000) (rn_run0 MM tg_x gen0 100000 11 69 (ra_S0 S D))
end RNFI2
