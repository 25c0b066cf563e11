section RNI
variable {own : String} {cc : ByteArray} {nL : Nat} {hh : rn_H} {pc : Nat}
def rn_d0 : Nat → Value
  | 0 => .int 0
  | 1 => .long 0
  | 2 => .int 0
  | _ => .null
def rn_a0 : Nat → rn_V
  | 0 => .inl (0, 0)
  | 1 => rn_lin 0 []
  | 2 => .inl (0, 0)
  | _ => .inr (.inr (.inr (.inl 0)))
theorem rn_a0_ok {E : rn_E} {G : rn_G} (k : Nat) : rn_g E G (rn_a0 k) (rn_d0 k) := by
  match k with
  | 0 => exact ⟨0, rfl, Int.le_refl _, Int.le_refl _⟩
  | 1 => exact ⟨0, rfl, rfl⟩
  | 2 => exact ⟨0, rfl, Int.le_refl _, Int.le_refl _⟩
  | k + 3 => exact Or.inl ⟨rfl, rfl⟩
theorem rn_a0s {E : rn_E} {G : rn_G} : ∀ tks : List Nat, rn_gs E G (tks.map rn_a0) (tks.map rn_d0)
  | [] => trivial
  | k :: l => ⟨rn_a0_ok k, rn_a0s l⟩
theorem rn_exq {G : rn_G} {q : Nat} : rn_ext G (G.1 ++ [q], G.2) := ⟨⟨[q], rfl⟩, ⟨[], by simp⟩⟩
theorem rn_gq {E : rn_E} {G : rn_G} {cA : Nat → ClassId} {h : List rn_C} {ws : va_W} (hw : rn_w E G cA h ws) (q : Nat) : rn_g E (G.1 ++ [q], G.2) (.inr (.inr (.inl h.length))) (.ref q) := by
  refine ⟨q, ?_, rfl⟩
  show (G.1 ++ [q])[h.length]? = some q
  rw [← hw.lenG, List.getElem?_append_right (Nat.le_refl _), Nat.sub_self]
  rfl
theorem rn_L.ext {E : rn_E} {G G' : rn_G} (hx : rn_ext G G') {ls : Array Slot} {nL : Nat} {al : List (Nat × rn_V)} (h : rn_L E G ls nL al) : rn_L E G' ls nL al := by
  obtain ⟨l, h1, h2⟩ := h
  exact ⟨l, h1, h2.ext hx⟩
/-- a new object -/
def rn_nw (ci : Nat) (tks : List Nat) : Nat → Nat → rn_S → Option (List rn_S) := fun mc ms (vs, h, nx, pc, al, st, c, z) =>
  cond (Nat.ble (c + 1) mc && Nat.ble (z + tks.length) ms) (some [(vs, h ++ [.inr (ci, tks.map rn_a0)], nx, pc + 3, al, .inr (.inr (.inl h.length)) :: st, c + 1, z + tks.length)]) none
theorem rn_new {index ci N : Nat} {C : String} {T : u_T} {ty : Nat → FieldType} {tks : List Nat} (hck : rn_ck ci C T N ty) (hd : decode cc pc = .ok (.new index, 3)) (hw1 : Cond.classLink own index C ∈ rn_ALL) (hw2 : Cond.instantiable C N ∈ rn_ALL) (hw3 : Cond.initialized C ∈ rn_ALL) (hn : tks.length = N) (hfs : ∀ j, j < N → defaultValue (ty j) = vp_V (tks.map rn_d0) j) : rn_SS own cc nL hh pc (rn_nw ci tks) := by
  rintro ⟨p, l, e, R, s, m, args, below, meth, c, D, cA, N0, E, G0, Q⟩ d mc ms ⟨vs, h, nx, pc0, al, st, c0, z0⟩ lS hF hpc hf hk
  cases hpc
  unfold rn_nw at hf
  dsimp only at hf
  cases hc : (Nat.ble (c0 + 1) mc && Nat.ble (z0 + tks.length) ms) with
  | false => rw [hc] at hf; cases hf
  | true =>
    rw [hc, cond_true] at hf
    cases hf
    rw [Bool.and_eq_true] at hc
    have hc1 := Nat.le_of_ble_eq_true hc.1
    have hc2 := Nat.le_of_ble_eq_true hc.2
    obtain ⟨hx, hb, -, hown, hts, -, hK, hN0, hFF, -, -, -, hR3, hR4, -⟩ := hF
    intro G ws H locs ls stk hR hL hs
    refine va_new hx hb hts hck.2.1 ty hck.2.2.1 hown (hts _ hw1) (hts _ hw2) (hts _ hw3) hK hR.2.2.2.2.1 hR.2.2.2.2.2.1 hR.2.2.2.2.2.2 (fun q hq => Nat.le_trans hN0 hq) hck.1 hfs (Nat.le_trans hc1 hR3) (by rw [← hn]; exact Nat.le_trans hc2 hR4) hd fun q H1 hP hD hS => ?_
    have key := hk _ List.mem_cons_self (G.1 ++ [q], G.2) _ H1 locs ls (.ref q :: stk) ⟨hR.1.tr rn_exq, hR.2.1, hR.2.2.1, rn_w.push (w := .inr (ci, tks.map rn_d0)) hR.2.2.2.1 ⟨rfl, rn_a0s tks⟩, hP, hD, hS⟩ (hL.ext rn_exq) ⟨rn_gq hR.2.2.2.1 q, hs.ext rn_exq⟩
    rw [hn] at key
    exact key
theorem rn_rep {E : rn_E} {G : rn_G} {a : rn_V} {v : Value} (h : rn_g E G a v) (n j : Nat) (b : rn_V) (hb : (List.replicate n a)[j]? = some b) : rn_g E G b v := by
  have hl := (List.getElem?_eq_some_iff.mp hb).1
  rw [List.length_replicate] at hl
  rw [List.getElem?_replicate, if_pos hl] at hb
  cases hb
  exact h
/-- a new array -/
def rn_na (kd n : Nat) : Nat → Nat → rn_S → Option (List rn_S) := fun mc ms (vs, h, nx, pc, al, st, c, z) => match st with
  | x :: r => cond (rn_isI x) (match rn_ix vs x with
    | none => none
    | some N => cond (Nat.ble N 1000 && Nat.ble (c + 1) mc && Nat.ble (z + N) ms) (some [(vs, h ++ [.inl (kd, List.replicate N (rn_a0 kd))], nx, pc + n, al, .inr (.inr (.inl h.length)) :: r, c + 1, z + N)]) none) none
  | _ => none
theorem rn_na_is {kd n mc ms : Nat} {vs : List (List Nat)} {h : List rn_C} {nx pc : Nat} {al : List (Nat × rn_V)} {st : List rn_V} {c z : Nat} {l : List rn_S} (hf : rn_na kd n mc ms (vs, h, nx, pc, al, st, c, z) = some l) :
    ∃ x r N, st = x :: r ∧ rn_isI x = true ∧ rn_ix vs x = some N ∧ N ≤ 1000 ∧ c + 1 ≤ mc ∧ z + N ≤ ms ∧ l = [(vs, h ++ [.inl (kd, List.replicate N (rn_a0 kd))], nx, pc + n, al, .inr (.inr (.inl h.length)) :: r, c + 1, z + N)] := by
  unfold rn_na at hf
  dsimp only at hf
  rcases st with _ | ⟨x, r⟩
  · cases hf
  · dsimp only at hf
    cases h0 : rn_isI x with
    | false => rw [h0] at hf; cases hf
    | true =>
      rw [h0, cond_true] at hf
      cases hi : rn_ix vs x with
      | none => rw [hi] at hf; cases hf
      | some N =>
        rw [hi] at hf
        dsimp only at hf
        cases hc : (Nat.ble N 1000 && Nat.ble (c + 1) mc && Nat.ble (z + N) ms) with
        | false => rw [hc] at hf; cases hf
        | true =>
          rw [hc] at hf
          cases hf
          rw [Bool.and_eq_true, Bool.and_eq_true] at hc
          exact ⟨x, r, N, rfl, h0, hi, Nat.le_of_ble_eq_true hc.1.1, Nat.le_of_ble_eq_true hc.1.2, Nat.le_of_ble_eq_true hc.2, rfl⟩
theorem rn_cAof {D : va_G} {cl : List vw_C} {cA : Nat → ClassId} {s : State} {k : Nat} {a : ClassId} {ty : FieldType} (hK0 : va_K D cl (rn_tys cA) s) (hk : (rn_tys cA)[k]? = some (cA k, ty)) (hK : va_K D cl (rn_tys cA ++ [(a, ty)]) s) : a = cA k := by
  have h1 := (hK.2 4 (a, ty) rfl).2
  have h2 := (hK0.2 k _ hk).2
  cases ty with
  | object C =>
    obtain ⟨_, _, _, _, _, e1⟩ := h1
    obtain ⟨_, _, _, _, _, e2⟩ := h2
    exact Option.some.inj (e1.symm.trans e2)
  | _ => exact Option.some.inj (Eq.trans (Eq.symm h1) h2)
theorem rn_newI (hd : decode cc pc = .ok (.newarray .int, 2)) (hw : Cond.arrayClass .int ∈ rn_ALL) : rn_SS own cc nL hh pc (rn_na 0 2) := by
  rintro ⟨p, l, e, R, s, m, args, below, meth, c, D, cA, N0, E, G0, Q⟩ d mc ms ⟨vs, h, nx, pc0, al, st, c0, z0⟩ lS hF hpc hf hk
  cases hpc
  obtain ⟨x, r, N, rfl, h0, hi, hN, hc1, hc2, rfl⟩ := rn_na_is hf
  obtain ⟨hx, hb, -, hown, hts, -, hK, hN0, hFF, -, -, -, hR3, hR4, -⟩ := hF
  intro G ws H locs ls stk hR hL hs
  obtain ⟨u, r1, rfl, g4, g5⟩ := rn_gs.pop hs
  obtain ⟨y, rfl⟩ := rn_g.int g4 h0
  obtain ⟨e1, e2⟩ := rn_ix_ok hR.2.1 g4 hi
  refine va_newa (atype := .int) (a0 := (N, .inl (fun _ => 0))) hx hb (hts _ hw) rfl hK hR.2.2.2.2.1 hR.2.2.2.2.2.1 hR.2.2.2.2.2.2 (fun q hq => Nat.le_trans hN0 hq) (fun _ => rfl) (fun z => by have := (ri_lt _ _).mp z; have h9 : (0 : Int32).toInt = 0 := rfl; omega) e1 (by show N * 4 ≤ 536870912; omega) (Nat.le_trans hc1 hR3) (Nat.le_trans hc2 hR4) hd fun q ca H1 hK1 hP hD hS => ?_
  have hca : ca = cA 0 := rn_cAof hK rfl hK1
  subst hca
  exact hk _ List.mem_cons_self (G.1 ++ [q], G.2) _ H1 locs ls (.ref q :: r1) ⟨hR.1.tr rn_exq, hR.2.1, hR.2.2.1, rn_w.push (w := .inl (cA 0, N, .inl (fun _ => 0))) hR.2.2.2.1 ⟨rfl, by rw [List.length_replicate], Or.inl rfl, fun j b hb => rn_rep (rn_a0_ok 0) N j b hb⟩, hP, hD, hS⟩ (hL.ext rn_exq) ⟨rn_gq hR.2.2.2.1 q, g5.ext rn_exq⟩
theorem rn_newJ (hd : decode cc pc = .ok (.newarray .long, 2)) (hw : Cond.arrayClass .long ∈ rn_ALL) : rn_SS own cc nL hh pc (rn_na 1 2) := by
  rintro ⟨p, l, e, R, s, m, args, below, meth, c, D, cA, N0, E, G0, Q⟩ d mc ms ⟨vs, h, nx, pc0, al, st, c0, z0⟩ lS hF hpc hf hk
  cases hpc
  obtain ⟨x, r, N, rfl, h0, hi, hN, hc1, hc2, rfl⟩ := rn_na_is hf
  obtain ⟨hx, hb, -, hown, hts, -, hK, hN0, hFF, -, -, -, hR3, hR4, -⟩ := hF
  intro G ws H locs ls stk hR hL hs
  obtain ⟨u, r1, rfl, g4, g5⟩ := rn_gs.pop hs
  obtain ⟨y, rfl⟩ := rn_g.int g4 h0
  obtain ⟨e1, e2⟩ := rn_ix_ok hR.2.1 g4 hi
  refine va_newa (atype := .long) (a0 := (N, .inr (.inl (fun _ => 0)))) hx hb (hts _ hw) rfl hK hR.2.2.2.2.1 hR.2.2.2.2.2.1 hR.2.2.2.2.2.2 (fun q hq => Nat.le_trans hN0 hq) (fun _ => rfl) (fun z => by have := (ri_lt _ _).mp z; have h9 : (0 : Int32).toInt = 0 := rfl; omega) e1 (by show N * 8 ≤ 536870912; omega) (Nat.le_trans hc1 hR3) (Nat.le_trans hc2 hR4) hd fun q ca H1 hK1 hP hD hS => ?_
  have hca : ca = cA 1 := rn_cAof hK rfl hK1
  subst hca
  exact hk _ List.mem_cons_self (G.1 ++ [q], G.2) _ H1 locs ls (.ref q :: r1) ⟨hR.1.tr rn_exq, hR.2.1, hR.2.2.1, rn_w.push (w := .inl (cA 1, N, .inr (.inl (fun _ => 0)))) hR.2.2.2.1 ⟨rfl, by rw [List.length_replicate], rfl, fun j b hb => rn_rep (rn_a0_ok 1) N j b hb⟩, hP, hD, hS⟩ (hL.ext rn_exq) ⟨rn_gq hR.2.2.2.1 q, g5.ext rn_exq⟩
theorem rn_newZ (hd : decode cc pc = .ok (.newarray .boolean, 2)) (hw : Cond.arrayClass .boolean ∈ rn_ALL) : rn_SS own cc nL hh pc (rn_na 2 2) := by
  rintro ⟨p, l, e, R, s, m, args, below, meth, c, D, cA, N0, E, G0, Q⟩ d mc ms ⟨vs, h, nx, pc0, al, st, c0, z0⟩ lS hF hpc hf hk
  cases hpc
  obtain ⟨x, r, N, rfl, h0, hi, hN, hc1, hc2, rfl⟩ := rn_na_is hf
  obtain ⟨hx, hb, -, hown, hts, -, hK, hN0, hFF, -, -, -, hR3, hR4, -⟩ := hF
  intro G ws H locs ls stk hR hL hs
  obtain ⟨u, r1, rfl, g4, g5⟩ := rn_gs.pop hs
  obtain ⟨y, rfl⟩ := rn_g.int g4 h0
  obtain ⟨e1, e2⟩ := rn_ix_ok hR.2.1 g4 hi
  refine va_newa (atype := .boolean) (a0 := (N, .inl (fun _ => 0))) hx hb (hts _ hw) rfl hK hR.2.2.2.2.1 hR.2.2.2.2.2.1 hR.2.2.2.2.2.2 (fun q hq => Nat.le_trans hN0 hq) (fun _ => rfl) (fun z => by have := (ri_lt _ _).mp z; have h9 : (0 : Int32).toInt = 0 := rfl; omega) e1 (by show N * 1 ≤ 536870912; omega) (Nat.le_trans hc1 hR3) (Nat.le_trans hc2 hR4) hd fun q ca H1 hK1 hP hD hS => ?_
  have hca : ca = cA 2 := rn_cAof hK rfl hK1
  subst hca
  exact hk _ List.mem_cons_self (G.1 ++ [q], G.2) _ H1 locs ls (.ref q :: r1) ⟨hR.1.tr rn_exq, hR.2.1, hR.2.2.1, rn_w.push (w := .inl (cA 2, N, .inl (fun _ => 0))) hR.2.2.2.1 ⟨rfl, by rw [List.length_replicate], Or.inr rfl, fun j b hb => rn_rep (rn_a0_ok 2) N j b hb⟩, hP, hD, hS⟩ (hL.ext rn_exq) ⟨rn_gq hR.2.2.2.1 q, g5.ext rn_exq⟩
theorem rn_F.over {E : rn_E} {N0 : Nat} {s : State} (h : rn_F E N0 s) : ∀ C : String, Cond.arrayOver (.object C) ∈ lw_tbl → va_AO C s := h.2.2.2.2.2.2.2.2.2.1
theorem rn_newO {index : Nat} (hd : decode cc pc = .ok (.anewarray index, 3)) (hw1 : Cond.classLink own index "java/lang/Object" ∈ rn_ALL) (hw2 : Cond.arrayOver (.object "java/lang/Object") ∈ lw_tbl) : rn_SS own cc nL hh pc (rn_na 3 3) := by
  rintro ⟨p, l, e, R, s, m, args, below, meth, c, D, cA, N0, E, G0, Q⟩ d mc ms ⟨vs, h, nx, pc0, al, st, c0, z0⟩ lS hF hpc hf hk
  cases hpc
  obtain ⟨x, r, N, rfl, h0, hi, hN, hc1, hc2, rfl⟩ := rn_na_is hf
  obtain ⟨hx, hb, -, hown, hts, -, hK, hN0, hFF, -, -, -, hR3, hR4, -⟩ := hF
  intro G ws H locs ls stk hR hL hs
  obtain ⟨u, r1, rfl, g4, g5⟩ := rn_gs.pop hs
  obtain ⟨y, rfl⟩ := rn_g.int g4 h0
  obtain ⟨e1, e2⟩ := rn_ix_ok hR.2.1 g4 hi
  refine va_newq hx hb hown (hts _ hw1) (hFF.over _ hw2) hK hR.2.2.2.2.1 hR.2.2.2.2.2.1 hR.2.2.2.2.2.2 (fun q hq => Nat.le_trans hN0 hq) (fun z => by have := (ri_lt _ _).mp z; have h9 : (0 : Int32).toInt = 0 := rfl; omega) e1 (by omega) (Nat.le_trans hc1 hR3) (Nat.le_trans hc2 hR4) hd fun q ca H1 hK1 hP hD hS => ?_
  have hca : ca = cA 3 := rn_cAof hK rfl hK1
  subst hca
  exact hk _ List.mem_cons_self (G.1 ++ [q], G.2) _ H1 locs ls (.ref q :: r1) ⟨hR.1.tr rn_exq, hR.2.1, hR.2.2.1, rn_w.push (w := .inl (cA 3, N, .inr (.inr (.inr (.inr (fun _ => none)))))) hR.2.2.2.1 ⟨rfl, by rw [List.length_replicate], rfl, fun j b hb => rn_rep (v := .null) (rn_a0_ok 3) N j b hb⟩, hP, hD, hS⟩ (hL.ext rn_exq) ⟨rn_gq hR.2.2.2.1 q, g5.ext rn_exq⟩
/-! length, cast, statics, Object's constructor -/
def rn_le : Nat → Nat → rn_S → Option (List rn_S) := fun _ _ (vs, h, nx, pc, al, st, c, z) => match st with
  | a :: r => match a with
    | .inr (.inr (.inl j)) => match h[j]? with
      | some (.inl o) => cond (Nat.blt o.1 4 && Nat.ble o.2.length 1000) (some [(vs, h, nx, pc + 1, al, .inl ((o.2.length : Int), (o.2.length : Int)) :: r, c, z)]) none
      | _ => none
    | .inr (.inr (.inr (.inl k))) => cond (Nat.beq k 4) (some [(vs, h, nx, pc + 1, al, .inl (0, 0) :: r, c, z)]) none
    | _ => none
  | _ => none
theorem rn_F.empty {E : rn_E} {N0 : Nat} {s : State} (h : rn_F E N0 s) : ∃ f, va_T (.object "java/lang/Object") E.2.2.2.2 0 f (rn_hi N0) s s.heap := h.2.2.2.1
theorem rn_alen (hd : decode cc pc = .ok (.arraylength, 1)) : rn_SS own cc nL hh pc rn_le := by
  rintro ⟨p, l, e, R, s, m, args, below, meth, c, D, cA, N0, E, G0, Q⟩ d mc ms ⟨vs, h, nx, pc0, al, st, c0, z0⟩ lS hF hpc hf hk
  cases hpc
  unfold rn_le at hf
  dsimp only at hf
  rcases st with _ | ⟨a, r⟩
  · cases hf
  · obtain ⟨hx, hb, -, hown, hts, -, hK, hN0, hFF, -⟩ := hF
    rcases a with a | a | j | k | a
    · cases hf
    · cases hf
    · dsimp only at hf
      split at hf
      · rename_i o ho
        cases hc : (Nat.blt o.1 4 && Nat.ble o.2.length 1000) with
        | false => rw [hc] at hf; cases hf
        | true =>
          rw [hc] at hf
          cases hf
          rw [Bool.and_eq_true] at hc
          have hc1 : o.1 < 4 := Nat.le_of_ble_eq_true hc.1
          have hc2 := Nat.le_of_ble_eq_true hc.2
          intro G ws H locs ls stk hR hL hs
          obtain ⟨u, r1, rfl, ⟨q, hq, rfl⟩, g5⟩ := rn_gs.pop hs
          obtain ⟨dt, hws, hd3⟩ := rn_row hR.2.2.2.1 hq ho
          obtain ⟨ty, hty⟩ := rn_tysat (cA := cA) hc1
          have hn : (Int32.ofNat o.2.length).toInt = (o.2.length : Int) := nI_toInt (by omega)
          exact va_alen hx hb hK hR.2.2.2.2.1 j o.1 hws hty rfl hd (hk _ List.mem_cons_self G ws H locs ls _ hR hL ⟨⟨_, rfl, by rw [hn]; exact Int.le_refl _, by rw [hn]; exact Int.le_refl _⟩, g5⟩)
      · cases hf
    · dsimp only at hf
      cases hc : Nat.beq k 4 with
      | false => rw [hc] at hf; cases hf
      | true =>
        rw [hc] at hf
        cases hf
        have e : k = 4 := Nat.eq_of_beq_eq_true hc
        subst e
        intro G ws H locs ls stk hR hL hs
        obtain ⟨u, r1, rfl, g4, g5⟩ := rn_gs.pop hs
        rcases g4 with ⟨q, -⟩ | ⟨q, -⟩ | ⟨q, -⟩ | ⟨q, -⟩ | ⟨-, rfl⟩ | ⟨q, -⟩
        · cases q
        · cases q
        · cases q
        · cases q
        · obtain ⟨f, hT⟩ := hFF.empty
          exact va_tlen hx hb hT hR.2.2.2.2.2.2 (v := 0) rfl hd (hk _ List.mem_cons_self G ws H locs ls _ hR hL ⟨⟨_, rfl, Int.le_refl _, Int.le_refl _⟩, g5⟩)
        · cases q
    · cases hf
def rn_ct (ci : Nat) : Nat → Nat → rn_S → Option (List rn_S) := fun _ _ (vs, h, nx, pc, al, st, c, z) => match st with
  | a :: r => match a with
    | .inr (.inr (.inl j)) => match h[j]? with
      | some (.inr o) => cond (Nat.beq o.1 ci) (some [(vs, h, nx, pc + 3, al, a :: r, c, z)]) none
      | _ => none
    | _ => none
  | _ => none
theorem rn_cast {index ci N : Nat} {C : String} {T : u_T} {ty : Nat → FieldType} (hck : rn_ck ci C T N ty) (hd : decode cc pc = .ok (.checkcast index, 3)) (hw : Cond.classLink own index C ∈ rn_ALL) : rn_SS own cc nL hh pc (rn_ct ci) := by
  rintro ⟨p, l, e, R, s, m, args, below, meth, c, D, cA, N0, E, G0, Q⟩ d mc ms ⟨vs, h, nx, pc0, al, st, c0, z0⟩ lS hF hpc hf hk
  cases hpc
  unfold rn_ct at hf
  dsimp only at hf
  rcases st with _ | ⟨a, r⟩
  · cases hf
  · obtain ⟨hx, hb, -, hown, hts, -, hK, hN0, hFF, -⟩ := hF
    rcases a with a | a | j | a
    · cases hf
    · cases hf
    · dsimp only at hf
      split at hf
      · rename_i o ho
        cases hc : Nat.beq o.1 ci with
        | false => rw [hc] at hf; cases hf
        | true =>
          rw [hc] at hf
          cases hf
          have e : o.1 = ci := Nat.eq_of_beq_eq_true hc
          subst e
          intro G ws H locs ls stk hR hL hs
          obtain ⟨u, r1, rfl, ⟨q, hq, rfl⟩, g5⟩ := rn_gs.pop hs
          obtain ⟨fs, hws, -⟩ := rn_obj hR.2.2.2.1 hq ho
          have key := hk _ List.mem_cons_self G ws H locs ls (.ref q :: r1) hR hL ⟨⟨q, hq, rfl⟩, g5⟩
          exact va_castS hx hb hown (hts _ hw) (hK.1 o.1 _ hck.1).2 (va_recv hK hR.2.2.2.2.1 hck.1 hws) hd key
      · cases hf
    · cases hf
def rn_gst : Nat → Nat → rn_S → Option (List rn_S) := fun _ _ (vs, h, nx, pc, al, st, c, z) => some [(vs, h, nx, pc + 3, al, .inr (.inr (.inr (.inl 4))) :: st, c, z)]
theorem rn_getst {index : Nat} (hd : decode cc pc = .ok (.getstatic index, 3)) (hw : Cond.fieldLink own index "java/util/ArrayList" "DEFAULTCAPACITY_EMPTY_ELEMENTDATA" "[Ljava/lang/Object;" ∈ rn_ALL) : rn_SS own cc nL hh pc rn_gst := by
  rintro ⟨p, l, e, R, s, m, args, below, meth, c, D, cA, N0, E, G0, Q⟩ d mc ms ⟨vs, h, nx, pc0, al, st, c0, z0⟩ lS hF hpc hf hk
  cases hpc
  cases hf
  obtain ⟨hx, hb, -, hown, hts, -, hK, hN0, hFF, -⟩ := hF
  intro G ws H locs ls stk hR hL hs
  exact va_gets hx hb hFF.2.2.1 hR.2.2.2.2.2.2 hown (hts _ hw) (fun _ h9 => h9) hd (hk _ List.mem_cons_self G ws H locs ls _ hR hL ⟨Or.inr (Or.inr (Or.inr (Or.inr (Or.inl ⟨rfl, rfl⟩)))), hs⟩)
def rn_oi : Nat → Nat → rn_S → Option (List rn_S) := fun _ _ (vs, h, nx, pc, al, st, c, z) => match st with
  | a :: r => match a with
    | .inr (.inr (.inl _)) => cond (Nat.ble (r.map rn_cat).sum 20) (some [(vs, h, nx, pc + 3, al, r, c, z)]) none
    | _ => none
  | _ => none
theorem rn_oinit {index : Nat} (hd : decode cc pc = .ok (.invokespecial index, 3)) (hw1 : Cond.methodLink own index objectInit ∈ rn_ALL) (hw2 : Cond.instanceMethod objectInit ∈ rn_ALL) (hw3 : Cond.code objectInit ⟨#[0xb1]⟩ 1 none ∈ rn_ALL) : rn_SS own cc nL hh pc rn_oi := by
  rintro ⟨p, l, e, R, s, m, args, below, meth, c, D, cA, N0, E, G0, Q⟩ d mc ms ⟨vs, h, nx, pc0, al, st, c0, z0⟩ lS hF hpc hf hk
  cases hpc
  unfold rn_oi at hf
  dsimp only at hf
  rcases st with _ | ⟨a, r⟩
  · cases hf
  · obtain ⟨hx, hb, hml, hown, hts, -, hK, hN0, hFF, -, hR1, hR2, -⟩ := hF
    rcases a with a | a | j | a
    · cases hf
    · cases hf
    · dsimp only at hf
      cases hc : Nat.ble (r.map rn_cat).sum 20 with
      | false => rw [hc] at hf; cases hf
      | true =>
        rw [hc] at hf
        cases hf
        have hc := Nat.le_of_ble_eq_true hc
        intro G ws H locs ls stk hR hL hs
        obtain ⟨u, r1, rfl, ⟨q, hq, rfl⟩, g5⟩ := rn_gs.pop hs
        have hcat := rn_gs.cats g5
        have hlsz : ls.size = nL := by obtain ⟨l0, hl0, -⟩ := hL; exact hl0.1
        have hA : 1 ≤ R.frames := by omega
        have hB : 2 * 0 + (r1.map fun v => v.category).sum + 12 ≤ R.locals := by rw [hcat]; omega
        refine W.objInit hx hb hown (hts _ hw1) (hts _ hw2) (hts _ hw3) rfl (hlsz.trans hml.symm) rfl hd hA hB ?_
        exact W.eq (g2 := F0 m (pc0 + 3) ls r1) rfl (hk _ List.mem_cons_self G ws H locs ls _ hR hL g5)
    · cases hf
/-- a field stored, and its value named -/
def rn_pn (ci k : Nat) : Nat → Nat → rn_S → Option (List rn_S) := fun mc ms (vs, h, nx, pc, al, st, c, z) => match st with
  | v :: r => cond (rn_isI v) (rn_pf ci k 0 mc ms (vs, h, nx + 1, pc, al, .inr (.inr (.inr (.inr (.inr (.inl nx))))) :: r, c, z)) none
  | _ => none
theorem rn_name {f : Nat → Nat → rn_S → Option (List rn_S)} {F : Nat → Nat → rn_S → Option (List rn_S)} (hF0 : ∀ mc ms vs h nx pc al st c z l, F mc ms (vs, h, nx, pc, al, st, c, z) = some l → ∃ v r, st = v :: r ∧ rn_isI v = true ∧ f mc ms (vs, h, nx + 1, pc, al, .inr (.inr (.inr (.inr (.inr (.inl nx))))) :: r, c, z) = some l) (h0 : rn_SS own cc nL hh pc f) : rn_SS own cc nL hh pc F := by
  rintro ⟨p, l, e, R, s, m, args, below, meth, c, D, cA, N0, E, G0, Q⟩ d mc ms ⟨vs, h, nx, pc0, al, st, c0, z0⟩ lS hF hpc hf hk
  cases hpc
  obtain ⟨v, r, rfl, hv, hf⟩ := hF0 _ _ _ _ _ _ _ _ _ _ _ hf
  have key := h0 (p, l, e, R, s, m, args, below, meth, c, D, cA, N0, E, G0, Q) d mc ms (vs, h, nx + 1, pc0, al, .inr (.inr (.inr (.inr (.inr (.inl nx))))) :: r, c0, z0) lS hF rfl hf hk
  intro G ws H locs ls stk hR hL hs
  obtain ⟨u, r1, rfl, g4, g5⟩ := rn_gs.pop hs
  obtain ⟨y, rfl⟩ := rn_g.int g4 hv
  have hx : rn_ext G (G.1, G.2 ++ [y]) := ⟨⟨[], by simp⟩, ⟨[y], rfl⟩⟩
  refine key (G.1, G.2 ++ [y]) ws H locs ls (.int y :: r1) ⟨hR.1.tr hx, hR.2.1, ?_, rn_w.ext hR.2.2.2.1 ⟨[y], rfl⟩, hR.2.2.2.2⟩ (hL.ext hx) ⟨⟨y, ?_, rfl⟩, g5.ext hx⟩
  · show (G.2 ++ [y]).length = nx + 1
    rw [List.length_append, hR.2.2.1]
    rfl
  · show (G.2 ++ [y])[nx]? = some y
    have hnx : G.2.length = nx := hR.2.2.1
    rw [List.getElem?_append_right (by omega), hnx, Nat.sub_self]
    rfl
theorem rn_pn_ok {ci k : Nat} (h0 : rn_SS own cc nL hh pc (rn_pf ci k 0)) : rn_SS own cc nL hh pc (rn_pn ci k) := by
  refine rn_name (fun mc ms vs h nx pc al st c z l hf => ?_) h0
  unfold rn_pn at hf
  dsimp only at hf
  rcases st with _ | ⟨v, r⟩
  · cases hf
  · dsimp only at hf
    cases hv : rn_isI v with
    | false => rw [hv] at hf; cases hf
    | true => rw [hv] at hf; exact ⟨v, r, rfl, hv, hf⟩
/-- 'throw new E("text")' -/
def rn_tw (x : Nat) : rn_T := fun mc ms _ _ (vs, h, nx, _, _, st, c, z) => cond (Nat.ble (st.map rn_cat).sum 20 && Nat.ble (c + 1) mc && Nat.ble (z + 6) ms) (some [(vs, h, nx, .inr (.inl x))]) none
theorem rn_throwS {M : Nat → rn_D} {x ik is ic : Nat} {text : String} {names : List String} (hh0 : hh.1 = []) (hnl : names.length ≤ 4) (hfit : Bundle.fit (rn_xn x) = true) (hnm : ∀ n ∈ names, Bundle.fit n = true) (hw1 : rn_wok (.classLink own ik (rn_xn x)) = true) (hw2 : rn_wok (.initialized (rn_xn x)) = true) (hw3 : Cond.stringRef own is text ∈ lw_tbl) (hw4 : (vx_atS own ic (rn_xn x) names).all rn_wok = true)
    (d0 : decode cc pc = .ok (.new ik, 3)) (d3 : decode cc (pc + 3) = .ok (.dup, 1)) (d4 : decode cc (pc + 4) = .ok (.ldc is, 2)) (d6 : decode cc (pc + 6) = .ok (.invokespecial ic, 3)) (d9 : decode cc (pc + 9) = .ok (.athrow, 1)) : rn_TS M own cc nL hh pc (rn_tw x) := by
  rintro ⟨p, l, e, R, s, m, args, below, meth, c, D, cA, N0, E, G0, Q⟩ d mc ms k call ⟨vs, h, nx, pc0, al, st, c0, z0⟩ outs hF hpc hr _ _ h3
  cases hpc
  unfold rn_tw at hr
  dsimp only at hr
  cases hc : (Nat.ble (st.map rn_cat).sum 20 && Nat.ble (c0 + 1) mc && Nat.ble (z0 + 6) ms) with
  | false => rw [hc] at hr; cases hr
  | true =>
    rw [hc] at hr
    cases hr
    rw [Bool.and_eq_true, Bool.and_eq_true] at hc
    have c1 := Nat.le_of_ble_eq_true hc.1.1
    have c2 := Nat.le_of_ble_eq_true hc.1.2
    have c3 := Nat.le_of_ble_eq_true hc.2
    obtain ⟨hx, hb, hml, hown, hts, hlk, hK, hN0, hFF, ⟨htb, -⟩, hR1, hR2, hR3, hR4, hst⟩ := hF
    obtain ⟨Qc, XC, hQ, hX⟩ := h3 _ List.mem_cons_self
    intro G ws H locs ls stk hR hL hs
    have hQ : Q = vx_MQ below Qc XC args s mc ms (rn_hi N0) := hQ
    subst hQ
    have hcat : (stk.map fun v => v.category).sum = (st.map rn_cat).sum := rn_gs.cats hs
    have hlsz : ls.size = nL := by obtain ⟨l0, hl0, -⟩ := hL; exact hl0.1
    obtain ⟨sa, hsa⟩ := hFF.2.2.2.2.2.2.2.2.1 own is text hw3
    have hat : ∀ w ∈ vx_atS own ic (rn_xn x) names, w.before args s = true := fun w hw => rn_wd hts hFF (List.all_eq_true.mp hw4 w hw)
    have hA : names.length + 3 < R.frames := by omega
    have hB : (stk.map fun v => v.category).sum + (13 * (names.length + 1) + 43) ≤ R.locals := by rw [hcat]; omega
    refine vx_throwS (A := rn_hi N0) (sa := sa) hx hb hst hown hfit hnm (rn_wd hts hFF hw1) (rn_wd hts hFF hw2) hsa hat ?_ hFF.1 hFF.2.1 hR.2.2.2.2.2.2 (hlsz.trans hml.symm) d0 d3 d4 d6 d9 ?_ hA hB (Nat.le_trans c2 hR3) (Nat.le_trans c3 hR4) hlk (fun t h5 h6 h7 => hX G ws H locs hR t h5 h6 h7) hR.2.2.2.2.2.2.2.2 c2 c3
    · intro w hw
      rcases List.mem_cons.mp hw with e | hw
      · rw [e]; exact rn_wot hw1
      · rcases List.mem_cons.mp hw with e | hw
        · rw [e]; exact rn_wot hw2
        · exact rn_wot (List.all_eq_true.mp hw4 w hw)
    · intro z hz
      rw [htb, hh0] at hz
      cases hz
theorem rn_throwW {M : Nat → rn_D} {x ik is ic : Nat} {text : String} {names : List String} (hh0 : hh.1 = []) (hnl : names.length ≤ 4) (hfit : Bundle.fit (rn_xn x) = true) (hnm : ∀ n ∈ names, Bundle.fit n = true) (hw1 : rn_wok (.classLink own ik (rn_xn x)) = true) (hw2 : rn_wok (.initialized (rn_xn x)) = true) (hw3 : Cond.stringRef own is text ∈ lw_tbl) (hw4 : (vx_atS own ic (rn_xn x) names).all rn_wok = true)
    (d0 : decode cc pc = .ok (.new ik, 3)) (d3 : decode cc (pc + 3) = .ok (.dup, 1)) (d4 : decode cc (pc + 4) = .ok (.ldc_w is, 3)) (d6 : decode cc (pc + 7) = .ok (.invokespecial ic, 3)) (d9 : decode cc (pc + 10) = .ok (.athrow, 1)) : rn_TS M own cc nL hh pc (rn_tw x) := by
  rintro ⟨p, l, e, R, s, m, args, below, meth, c, D, cA, N0, E, G0, Q⟩ d mc ms k call ⟨vs, h, nx, pc0, al, st, c0, z0⟩ outs hF hpc hr _ _ h3
  cases hpc
  unfold rn_tw at hr
  dsimp only at hr
  cases hc : (Nat.ble (st.map rn_cat).sum 20 && Nat.ble (c0 + 1) mc && Nat.ble (z0 + 6) ms) with
  | false => rw [hc] at hr; cases hr
  | true =>
    rw [hc] at hr
    cases hr
    rw [Bool.and_eq_true, Bool.and_eq_true] at hc
    have c1 := Nat.le_of_ble_eq_true hc.1.1
    have c2 := Nat.le_of_ble_eq_true hc.1.2
    have c3 := Nat.le_of_ble_eq_true hc.2
    obtain ⟨hx, hb, hml, hown, hts, hlk, hK, hN0, hFF, ⟨htb, -⟩, hR1, hR2, hR3, hR4, hst⟩ := hF
    obtain ⟨Qc, XC, hQ, hX⟩ := h3 _ List.mem_cons_self
    intro G ws H locs ls stk hR hL hs
    have hQ : Q = vx_MQ below Qc XC args s mc ms (rn_hi N0) := hQ
    subst hQ
    have hcat : (stk.map fun v => v.category).sum = (st.map rn_cat).sum := rn_gs.cats hs
    have hlsz : ls.size = nL := by obtain ⟨l0, hl0, -⟩ := hL; exact hl0.1
    obtain ⟨sa, hsa⟩ := hFF.2.2.2.2.2.2.2.2.1 own is text hw3
    have hat : ∀ w ∈ vx_atS own ic (rn_xn x) names, w.before args s = true := fun w hw => rn_wd hts hFF (List.all_eq_true.mp hw4 w hw)
    have hA : names.length + 3 < R.frames := by omega
    have hB : (stk.map fun v => v.category).sum + (13 * (names.length + 1) + 43) ≤ R.locals := by rw [hcat]; omega
    refine vx_throwSW (A := rn_hi N0) (sa := sa) hx hb hst hown hfit hnm (rn_wd hts hFF hw1) (rn_wd hts hFF hw2) hsa hat ?_ hFF.1 hFF.2.1 hR.2.2.2.2.2.2 (hlsz.trans hml.symm) d0 d3 d4 d6 d9 ?_ hA hB (Nat.le_trans c2 hR3) (Nat.le_trans c3 hR4) hlk (fun t h5 h6 h7 => hX G ws H locs hR t h5 h6 h7) hR.2.2.2.2.2.2.2.2 c2 c3
    · intro w hw
      rcases List.mem_cons.mp hw with e | hw
      · rw [e]; exact rn_wot hw1
      · rcases List.mem_cons.mp hw with e | hw
        · rw [e]; exact rn_wot hw2
        · exact rn_wot (List.all_eq_true.mp hw4 w hw)
    · intro z hz
      rw [htb, hh0] at hz
      cases hz
end RNI
