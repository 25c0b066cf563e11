section RNFI
/-! sleeping's beginning: what it has made, put in the templates' order -/
def ra_el (h : List rn_C) (j f : Nat) : Option rn_V := match h[j]? with
  | some (.inl x) => x.2[f]?
  | some (.inr o) => o.2[f]?
  | none => none
def ra_rf (a : Option rn_V) : Option Nat := match a with
  | some (.inr (.inr (.inl k))) => some k
  | _ => none
/-- where things are found: (0, n, 0) local n; (1, j, f) field or place f of the j-th found -/
def ra_pi (h : List rn_C) (al : List (Nat × rn_V)) : List (Nat × Nat × Nat) → List Nat → Option (List Nat)
  | [], pi => some pi
  | q :: l, pi => match cond (Nat.beq q.1 0) (ra_rf (rn_find q.2.1 al)) (match pi[q.2.1]? with
      | some j => ra_rf (ra_el h j q.2.2)
      | none => none) with
    | some k => ra_pi h al l (pi ++ [k])
    | none => none
def ra_paths (S D : Nat) : List (Nat × Nat × Nat) :=
  [(0, 1, 0), (1, 0, 0), (1, 0, 1), (1, 0, 2), (1, 0, 3), (1, 0, 4), (1, 0, 5), (1, 1, 1), (1, 2, 1), (1, 3, 1), (1, 5, 1), (1, 7, 0), (1, 11, 2), (1, 11, 3), (1, 11, 4), (1, 11, 5), (1, 12, 1), (1, 13, 1), (1, 16, 0), (1, 8, 0), (1, 19, 3), (1, 20, 1), (0, 4, 0), (0, 5, 0), (0, 6, 0), (0, 7, 0), (0, 8, 0)]
  ++ ((List.range D).map fun k => [(1, 9, k), (1, 27 + 4 * k, 3), (1, 28 + 4 * k, 1), (1, 27 + 4 * k, 4)]).flatten
  ++ (List.range S).map fun j => (1, 10, j)
def ra_sd (al : List (Nat × rn_V)) : Option (Nat × Nat) := match rn_find 2 al with
  | some (.inl (x, _)) => match rn_find 3 al with
    | some (.inl (y, _)) => some (x.toNat, y.toNat)
    | _ => none
  | _ => none
/-- which devices are awake, is the domain kept -/
def ra_bits : List rn_V → Nat
  | [] => 0
  | a :: l => (rt_val a 0).toNat + 2 * ra_bits l
def ra_bt (c : Option rn_C) : Nat := match c with
  | some (.inl x) => ra_bits x.2
  | _ => 0
def ra_mp (S D : Nat) (h : List rn_C) : List (Nat × List Nat) :=
  let bits := ra_bt h[22]?
  let kept := match ra_el h 19 2 with
    | some v => (rt_val v 0).toNat
    | none => 0
  [(0, [0]), (1, [bits + 2 * 2 ^ D * kept]), (2, [0])] ++ (List.range S).map fun j => (3 + j, [0])
def ra_end (dc dz : Nat) (o : rn_O) : Bool := match o.2.2.2 with
  | .inr (.inr (p, al, st, c, z)) => match ra_sd al with
    | none => false
    | some (S, D) => match ra_pi o.2.1 al (ra_paths S D) [] with
      | none => false
      | some pi => match ra_S pi (o.1, o.2.1, o.2.2.1, p, al, st, c, z) with
        | none => false
        | some S' => Nat.ble 1 S && Nat.ble S 6 && Nat.ble 1 D && Nat.ble D 4 && rm_ok 3 (ra_mp S D S'.2.1) S' (rt_T S D 0 299 dc dz)
  | _ => false
end RNFI
