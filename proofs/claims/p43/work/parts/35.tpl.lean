section RNX
/-! the loop's states -/
def rt_e (x : Nat) (t : List Int) : rn_V := .inr (.inl (x, t))
def rt_c (n : Int) : rn_V := .inl (n, n)
def rt_r (n : Nat) : rn_V := .inr (.inr (.inl n))
def rt_nil : rn_V := .inr (.inr (.inr (.inl 0)))
def rt_row0 : rn_V := .inr (.inr (.inr (.inl 4)))
def rt_al : rn_V := .inr (.inr (.inr (.inl 3)))
def rt_l0 : rn_V := .inr (.inr (.inr (.inr (.inr (.inr (0, []))))))
def rt_l1 : rn_V := .inr (.inr (.inr (.inr (.inr (.inr (0, [0]))))))
def rt_tm : rn_V := .inr (.inr (.inr (.inr (.inl 0))))
def rt_rg (a b : Int) : rn_V := .inl (a, b)
/-- which devices are awake, whether it has slept, whether the domain keeps: asleep it has slept -/
def rt_m (D _a : Nat) : Nat := 4 * 2 ^ D
def rt_bt (D a k : Nat) (x y : Int) : rn_V := rt_e 1 ((List.range (rt_m D a)).map fun m => cond (Nat.beq (m / 2 ^ k % 2) 1) x y)
def rt_cnt : Nat → Nat → Int
  | 0, _ => 0
  | k + 1, m => cond (Nat.beq (m / 2 ^ k % 2) 1) (rt_cnt k m + 1) (rt_cnt k m)
def rt_rep (n : Nat) (v : rn_V) : List rn_V := List.replicate n v
def rt_pad (n : Nat) (l : List rn_V) : List rn_V := l ++ rt_rep (n - l.length) rt_nil
def rt_lst (d : Nat) (n : Nat) : rn_C := .inr (0, [rt_c n, rt_r d, rt_c n])
def rt_nol : rn_C := .inr (0, [rt_c 0, rt_row0, rt_c 0])
/-- awake: saved, where it has slept; asleep: register, where it is kept -/
def rt_half (D a k : Nat) : rn_V := rt_e 1 ((List.range (rt_m D a)).map fun m => cond (Nat.beq (m / 2 ^ k % 2) 1 && Nat.beq (m / (2 ^ D * 2 ^ a) % 2) 1) (Int.ofNat (100 + k)) 0)
def rt_full (D a k : Nat) : rn_V := rt_bt D a k (Int.ofNat (100 + k)) 0
def rt_dev (D k a : Nat) : List rn_C :=
  let b := 27 + 4 * k
  [.inr (2, [rt_c k, rt_r 19, rt_c 0, rt_r (b + 1), rt_r (b + 3), rt_bt D a k 1 0, cond (Nat.beq a 1) (rt_c 0) (rt_bt D a k 1 0), cond (Nat.beq a 1) (rt_bt D a k 1 0) (rt_c 0), rt_c 0, cond (Nat.beq a 1) (rt_half D a k) (rt_full D a k), cond (Nat.beq a 1) (rt_full D a k) (rt_half D a k), rt_full D a k, rt_c 0, rt_c 0]),
   .inr (4, [rt_c 0, rt_r (b + 2), rt_rg 0 4, rt_nil, rn_any, rt_c 0, rt_c 0]),
   .inl (1, rt_rep 4 rt_al), rt_nol]
def rt_src (j : Nat) : rn_C := .inr (7, [rt_e (3 + j) [0, 0, 1, 1, 1, 1], rt_e (3 + j) [0, 1, 0, 1, 0, 1], rt_e (3 + j) [0, 0, 0, 0, 1, 1]])
def rt_h (S D a : Nat) : List rn_C :=
  [.inr (8, [rt_r 1, rt_r 2, rt_r 3, rt_r 4, rt_r 5, rt_r 6, rt_l1, rt_tm, rt_c a, rt_e 2 (-1 :: (List.range S).map Int.ofNat)]),
   rt_lst 7 1, rt_lst 8 1, rt_lst 9 D, rt_nol, rt_lst 10 S, .inl (1, rt_rep 6 rt_l0),
   .inl (3, rt_pad 10 [rt_r 11]), .inl (3, rt_pad 10 [rt_r 19]), .inl (3, rt_pad 10 ((List.range D).map fun k => rt_r (27 + 4 * k))), .inl (3, rt_pad 10 ((List.range S).map fun j => rt_r (27 + 4 * D + j))),
   .inr (6, [rt_c 5, rt_c 0, rt_r 12, rt_r 13, rt_r 14, rt_r 15, rt_rg 0 7, rt_rg 0 5, rt_rg 0 1, rt_c 0, rt_c 0]),
   rt_lst 16 1, rt_lst 17 1, .inl (0, rt_rep 6 (rt_c 0)), .inl (1, rt_rep 20 rt_al), .inl (3, rt_pad 10 [rt_r 18]), .inl (3, rt_pad 10 [rt_r 19]), .inr (5, [rt_c 5, rt_c 7]),
   .inr (3, [rt_nil, rt_r 11, rt_e 1 ((List.range (rt_m D a)).map fun m => cond (Nat.beq (m / (2 * 2 ^ D) % 2) 1) 1 0), rt_r 20, cond (Nat.beq a 1) (rt_c 0) (rt_e 1 ((List.range (rt_m D a)).map fun m => rt_cnt D m)), rn_any, rt_c 9999, rt_l1, rn_any, rn_any]),
   rt_lst 21 D, .inl (3, rt_pad 10 ((List.range D).map fun k => rt_r (27 + 4 * k))),
   .inl (2, (List.range D).map fun k => rt_bt D a k 1 0),
   .inl (2, (List.range S).map fun j => rt_e (3 + j) [0, 0, 1, 1, 1, 1]), .inl (2, (List.range S).map fun j => rt_e (3 + j) [0, 1, 0, 1, 0, 1]),
   .inl (2, (List.range S).map fun j => rt_e (3 + j) [0, 0, 0, 0, 0, 1]), .inl (2, (List.range S).map fun j => rt_e (3 + j) [0, 0, 0, 0, 1, 0])]
  ++ ((List.range D).map fun k => rt_dev D k a).flatten
  ++ (List.range S).map rt_src
def rt_vs (S D a pc : Nat) : List (List Nat) := [List.range (cond (Nat.beq pc 931) 50 51), cond (Nat.beq a 1) ((List.range (rt_m D a)).filter fun m => Nat.beq (m / 2 ^ D % 2) 1) (List.range (rt_m D a)), List.range (S + 1)] ++ List.replicate S (cond (Nat.beq a 1) [0, 1, 2, 3, 5] (List.range 6))
def rt_loc (S D a : Nat) : List (Nat × rn_V) := [(0, .inr (.inr (.inr (.inl 2)))), (1, rt_r 0), (2, rt_c S), (3, rt_c D), (4, rt_r 22), (5, rt_r 23), (6, rt_r 24), (7, rt_r 25), (8, rt_r 26), (9, rt_c a), (10, rt_e 2 (-2000000005 :: (List.range S).map Int.ofNat)), (11, rt_e 0 ((List.range 51).map Int.ofNat))]
def rt_S (S D a pc : Nat) : rn_S := (rt_vs S D a pc, rt_h S D a, 0, pc, rt_loc S D a, [], 0, 0)
/-- what calls' ends are widened to -/
def rg_rail (f : List rn_V) : List rn_V := ((f.set 6 (rt_rg 0 7)).set 7 (rt_rg 0 5)).set 8 (rt_rg 0 1)
def rg_wid (q : rn_C) : rn_C := match q with
  | .inl (k, r) => cond (Nat.beq k 1 && Nat.beq r.length 20) (.inl (1, rt_rep 20 rt_al)) (.inl (k, r))
  | .inr (k, f) => cond (Nat.beq k 6) (.inr (k, rg_rail f)) (cond (Nat.beq k 3) (.inr (k, ((f.set 5 rn_any).set 8 rn_any).set 9 rn_any)) (.inr (k, f)))
def rg_wid2 (q : rn_C) : rn_C := match q with
  | .inl (k, r) => .inl (k, r)
  | .inr (k, f) => cond (Nat.beq k 6) (.inr (k, rg_rail f)) (cond (Nat.beq k 3) (.inr (k, (f.set 5 rn_any).set 9 rn_any)) (.inr (k, f)))
def rg_idle (h : List rn_C) (as : List rn_V) : List rn_C := match as with
  | .inr (.inr (.inl j)) :: _ => match h[j]? with
    | some (.inr (k, f)) => match rn_find 1 (f.mapIdx fun n v => (n, v)) with
      | some (.inr (.inr (.inl i))) => (h.set j (.inr (k, (f.set 2 (rt_rg 0 4)).set 4 rn_any))).set i (.inl (1, rt_rep 4 rt_al))
      | _ => h
    | _ => h
  | _ => h
/-- is it sure that this source isn't pending -/
def rg_np (vs : List (List Nat)) (h : List rn_C) (as : List rn_V) : Bool := match as with
  | .inr (.inr (.inl j)) :: _ => match h[j]? with
    | some (.inr (_, [_, .inr (.inl (x, kk)), .inr (.inl (y, hw))])) => Nat.beq x y && (match vs[x]? with
      | some l => l.all fun i => !(rn_at hw (fun v => decide (v = 1)) i && rn_at kk (fun v => decide (v = 0)) i)
      | none => false)
    | _ => false
  | _ => false
/-- is it sure that this device isn't idling -/
def rg_ni (vs : List (List Nat)) (h : List rn_C) (as : List rn_V) : Bool := match as with
  | .inr (.inr (.inl j)) :: _ => match h[j]? with
    | some (.inr (_, f)) => match rn_find 5 (f.mapIdx fun n v => (n, v)) with
      | some (.inr (.inl (x, ct))) => match rn_find 6 (f.mapIdx fun n v => (n, v)) with
        | some (.inr (.inl (y, aw))) => Nat.beq x y && (match vs[x]? with
          | some l => l.all fun i => !(rn_at aw (fun v => decide (v = 1)) i && rn_at ct (fun v => decide (v = 0)) i)
          | none => false)
        | _ => false
      | _ => false
    | _ => false
  | _ => false
/-- the cause's table as an answer -/
def rg_cz (t : List Int) : List Int := t.map fun v => cond (decide (v = -1)) (-2000000005) v
/-- tables of one variable, put together -/
def rg_z (f : Int → Int → Int) (x : Nat) (a b : rn_V) : Option rn_V := match a with
  | .inr (.inl (y, t)) => match b with
    | .inr (.inl (z, u)) => cond (Nat.beq x y && Nat.beq x z) (some (.inr (.inl (x, List.zipWith f t u)))) none
    | _ => none
  | _ => none
def rg_sum : List rn_C → Option rn_V → Option rn_V
  | [], r => r
  | q :: l, r => match q with
    | .inr (2, f) => match rn_find 7 (f.mapIdx fun n v => (n, v)) with
      | some v => match r with
        | none => rg_sum l (some v)
        | some w => match rg_z (fun a b => a + b) 1 w v with
          | some u => rg_sum l (some u)
          | none => none
      | none => none
    | _ => rg_sum l r
def rg_kept : List rn_C → rn_V
  | [] => rt_nil
  | q :: l => match q with
    | .inr (3, f) => match rn_find 2 (f.mapIdx fun n v => (n, v)) with
      | some v => v
      | none => rt_nil
    | _ => rg_kept l
def rg_vs (v w : List (List Nat)) : List (List Nat) := match v, w with
  | a :: _ :: l, _ :: b :: _ => a :: b :: l
  | _, _ => v
/-- the chip wakes: from what was (c) and what is (q) -/
def rg_wk1 (us : rn_V) (c q : rn_C) : rn_C := match c with
  | .inl (1, [_, _, _, _]) => .inl (1, rt_rep 4 rt_al)
  | .inr (2, [f0, f1, f2, f3, f4, f5, _, f7, f8, _, f10, f11, f12, f13]) => .inr (2, [f0, f1, f2, f3, f4, f5, f7, rt_c 0, f8, f10, f10, f11, f12, f13])
  | .inr (3, f) => .inr (3, f.set 4 us)
  | .inr (4, f) => .inr (4, (f.set 2 (rt_rg 0 4)).set 4 rn_any)
  | _ => q
def rg_sl1 (kp : rn_V) (c q : rn_C) : rn_C := match c with
  | .inr (2, [f0, f1, f2, f3, f4, f5, f6, _, f8, f9, _, f11, f12, f13]) => .inr (2, [f0, f1, f2, f3, f4, f5, rt_c 0, f6, f8, (match rg_z (fun a b => a * b) 1 kp f9 with
    | some v => v
    | none => rn_any), f9, f11, f12, f13])
  | .inr (3, f) => .inr (3, f.set 4 (rt_c 0))
  | .inr (4, f) => .inr (4, f.set 4 rn_any)
  | _ => q
def rg_zip (g : rn_C → rn_C → rn_C) : List rn_C → List rn_C → List rn_C
  | a :: l, b :: m => g a b :: rg_zip g l m
  | _, m => m
def gen0 : Nat → Option (rn_A → rn_O → rn_O) := fun mu => match mu with
  | 68 => some fun a o => match a.2.2.2 with
      | [_, .inl (n, m)] => cond (decide (n = m) && decide (n = 2)) (a.1, o.2.1, o.2.2.1, .inl (some (.inl (0, 1)))) o
      | _ => o
  | 66 => some fun a o => (a.1, a.2.1, o.2.2.1, .inl (some rn_any))
  | 59 => some fun a o => (a.1, rg_idle a.2.1 a.2.2.2, o.2.2)
  | 31 => some fun a o => (a.1, o.2.1.map rg_wid, o.2.2)
  | 32 => some fun a o => (a.1, o.2.1.map rg_wid2, o.2.2)
  | 53 => some fun a o => (a.1, o.2.1.map rg_wid2, o.2.2)
  | 54 => some fun a o => (a.1, o.2.1.map rg_wid2, o.2.2)
  | 43 => some fun a o => (a.1, o.2.1.map rg_wid2, o.2.2)
  | 40 => some fun a o => (a.1, o.2)
  | 55 => some fun a o => (a.1, o.2)
  | 56 => some fun a o => cond (rg_ni a.1 a.2.1 a.2.2.2) (a.1, o.2) o
  | 24 => some fun a o => cond (rg_np a.1 a.2.1 a.2.2.2) (a.1, o.2) o
  | 5 => some fun a o => match a.2.2.2 with
    | [_, .inl (99, 99), _] => match a.2.1 with
      | .inr (_, [_, _, _, _, _, _, _, _, _, .inr (.inl (x, t))]) :: _ => (a.1, o.2.1, o.2.2.1, .inl (some (.inr (.inl (x, rg_cz t)))))
      | _ => o
    | _ => o
  | 28 => some fun a o => match o.2.2.2 with
    | .inl (some (.inl (1, 1))) => match rg_sum a.2.1 none with
      | some us => (rg_vs o.1 a.1, rg_zip (rg_wk1 us) a.2.1 o.2.1, o.2.2)
      | none => o
    | _ => o
  | 29 => some fun a o => match o.2.2.2 with
    | .inl (some (.inl (-1, -1))) => (rg_vs o.1 a.1, rg_zip (rg_sl1 (rg_kept a.2.1)) a.2.1 o.2.1, o.2.2)
    | _ => o
  | 121 => some fun a o => (a.1, o.2)
  | 122 => some fun a o => (a.1, o.2)
  | 23 => some fun a o => (a.1, a.2.1 ++ o.2.1.drop a.2.1.length, o.2.2)
  | _ => none
/-! which template an end fits, and by which variables -/
def rt_T (S D a pc c z : Nat) : rn_S := (rt_vs S D a pc, rt_h S D a, 0, pc, rt_loc S D a, [], c, z)
def rt_val (a : rn_V) (i : Nat) : Int := match a with
  | .inl r => r.1
  | .inr (.inl w) => (w.2[i]?).getD 0
  | _ => 0
def rt_k3 (f : List rn_V) (i : Nat) : Nat := match f with
  | [x, y, w] => cond (rn_eqI (rt_val x i) 0) (rt_val y i).toNat (2 + (rt_val y i).toNat + 2 * (rt_val w i).toNat)
  | _ => 0
def rt_ms : Nat → List rn_C → List (Nat × List Nat)
  | _, [] => []
  | j, q :: l => match q with
    | .inr (7, f) => cond (rn_eqC q (rt_src j)) (rt_ms (j + 1) l) ((3 + j, (List.range 6).map (rt_k3 f)) :: rt_ms (j + 1) l)
    | _ => rt_ms (j + 1) l
def rt_mp (S D a ph : Nat) (h : List rn_C) : Option (Nat × List (Nat × List Nat)) := match h with
  | .inr (_, [_, _, _, _, _, _, _, _, .inl (b, _), cz]) :: _ =>
    some (b.toNat, (cond (Nat.beq ph 1) [(0, (List.range 51).map Nat.succ)] []) ++ (cond (Nat.beq a 0 && rn_eqI b 1) [(1, (List.range (4 * 2 ^ D)).map fun m => cond (Nat.beq (m / 2 ^ D % 2) 1) m (m + 2 ^ D))] []) ++ (match cz with
      | .inl (c, _) => [(2, List.replicate (S + 1) (c + 1).toNat)]
      | _ => []) ++ rt_ms 0 ((h.drop (27 + 4 * D)).take S))
  | _ => none
/-- the step's variable: as it was, or one more -/
def rt_st0 (ph : Nat) (mp : List (Nat × List Nat)) : Bool := match rm_get 0 mp with
  | none => Nat.beq ph 0
  | some m => Nat.beq ph 1 && (List.range 50).all fun i => match m[i]? with
    | some k => Nat.beq k (i + 1)
    | none => false
/-- an end of a step: the law is true, or it goes on -/
def rt_end (S D a ph pc dc dz : Nat) (o : rn_O) : Bool := match o.2.2.2 with
  | .inl (some (.inl (x, y))) => rn_eqI x 1 && rn_eqI y 1
  | .inr (.inr (p, al, st, c, z)) => match rt_mp S D a ph o.2.1 with
    | some (b, mp) => Nat.ble b 1 && rt_st0 ph mp && rm_ok 3 mp (o.1, o.2.1, o.2.2.1, p, al, st, c, z) (rt_T S D b pc dc dz)
    | none => false
  | _ => false
noncomputable def rt_chk (t : Nat → Option rn_T) (S D a ph pc1 pc2 : Nat) : Bool := match rn_run1 MM tg_x gen0 100000 11 t 300 3000 100000 (rt_T S D a pc1 0 0) with
  | none => false
  | some os => os.all (rt_end S D a ph pc2 300 3000)
end RNX
