section RNH
theorem rn_bad_on {w : Cond} (h : rn_badw w = true) : w.onTables = true := by
  cases w <;> first | rfl | cases h
/-- a word of the tables, of either kind -/
def rn_wok (w : Cond) : Bool := decide (w ∈ lw_tbl) && (goodWord w || rn_badw w)
theorem rn_wd {E : rn_E} {N0 : Nat} {s : State} {args : Array Value} (hts : ∀ w ∈ rn_ALL, w.before args s = true) (hFF : rn_F E N0 s) {w : Cond} (h : rn_wok w = true) : w.before args s = true := by
  unfold rn_wok at h
  rw [Bool.and_eq_true, Bool.or_eq_true, decide_eq_true_eq] at h
  rcases h.2 with g | g
  · exact hts w (List.mem_filter.mpr ⟨h.1, g⟩)
  · exact va_Nw.use (rn_bad_on g) (hFF.bad w h.1 g)
theorem rn_wot {w : Cond} (h : rn_wok w = true) : vx_ot w = true := by
  unfold rn_wok at h
  rw [Bool.and_eq_true, Bool.or_eq_true] at h
  unfold vx_ot
  rw [Bool.or_eq_true]
  rcases h.2 with g | g
  · exact Or.inr g
  · exact Or.inl (rn_bad_on g)
variable {own : String} {cc : ByteArray} {nL : Nat} {hh : rn_H} {pc : Nat}
/-- the place that an index names -/
def rn_ix (vs : List (List Nat)) (a : rn_V) : Option Nat := match rn_hull vs a with
  | none => none
  | some r => cond (decide (r.1 = r.2) && decide (0 ≤ r.1)) (some r.1.toNat) none
theorem rn_clamp (y : Int32) : y.toNatClampNeg = y.toInt.toNat := rfl
theorem rn_ix_ok {E : rn_E} {G : rn_G} {vs : List (List Nat)} (hv : rn_okV E vs) {a : rn_V} {y : Int32} (hg : rn_g E G a (.int y)) {i : Nat} (h : rn_ix vs a = some i) : y.toNatClampNeg = i ∧ y.toInt = (i : Int) := by
  unfold rn_ix at h
  cases h1 : rn_hull vs a with
  | none => rw [h1] at h; cases h
  | some r =>
    rw [h1] at h
    dsimp only at h
    cases hc : (decide (r.1 = r.2) && decide (0 ≤ r.1)) with
    | false => rw [hc] at h; cases h
    | true =>
      rw [hc] at h
      cases h
      rw [Bool.and_eq_true, decide_eq_true_eq, decide_eq_true_eq] at hc
      obtain ⟨y', e, a1, a2⟩ := rn_hull_ok hv h1 hg
      cases e
      rw [rn_clamp]
      omega
theorem rn_vin {y : Int32} {i n : Nat} (h : y.toInt = (i : Int)) (hi : i < n) : vp_in y n := vp_in_iff.mpr ⟨by omega, by omega⟩
def rn_ra (kd : Nat) : Nat → Nat → rn_S → Option (List rn_S) := fun _ _ (vs, h, nx, pc, al, st, c, z) => match st with
  | x :: a :: r => cond (rn_isI x) (match a with
    | .inr (.inr (.inl j)) => match h[j]? with
      | some (.inl o) => cond (Nat.beq o.1 kd) (match rn_ix vs x with
        | none => none
        | some i => match o.2[i]? with
          | some v => some [(vs, h, nx, pc + 1, al, v :: r, c, z)]
          | none => none) none
      | _ => none
    | _ => none) none
  | _ => none
theorem rn_ra_is {kd mc ms : Nat} {vs : List (List Nat)} {h : List rn_C} {nx pc : Nat} {al : List (Nat × rn_V)} {st : List rn_V} {c z : Nat} {l : List rn_S} (hf : rn_ra kd mc ms (vs, h, nx, pc, al, st, c, z) = some l) :
    ∃ j r x as i v, st = x :: .inr (.inr (.inl j)) :: r ∧ rn_isI x = true ∧ h[j]? = some (.inl (kd, as)) ∧ rn_ix vs x = some i ∧ as[i]? = some v ∧ l = [(vs, h, nx, pc + 1, al, v :: r, c, z)] := by
  unfold rn_ra at hf
  dsimp only at hf
  rcases st with _ | ⟨x, _ | ⟨a, r⟩⟩
  · cases hf
  · cases hf
  · dsimp only at hf
    cases h0 : rn_isI x with
    | false => rw [h0] at hf; cases hf
    | true =>
      rw [h0, cond_true] at hf
      rcases a with a | a | j | a
      · cases hf
      · cases hf
      · dsimp only at hf
        split at hf
        · rename_i o ho
          cases hc : Nat.beq o.1 kd with
          | false => rw [hc] at hf; cases hf
          | true =>
            rw [hc, cond_true] at hf
            have e : o.1 = kd := Nat.eq_of_beq_eq_true hc
            cases hi : rn_ix vs x with
            | none => rw [hi] at hf; cases hf
            | some i =>
              rw [hi] at hf
              dsimp only at hf
              cases hv : o.2[i]? with
              | none => rw [hv] at hf; cases hf
              | some v =>
                rw [hv] at hf
                cases hf
                obtain ⟨oc, ofs⟩ := o
                dsimp only at e hv
                subst e
                exact ⟨j, r, x, ofs, i, v, rfl, h0, ho, hi, hv, rfl⟩
        · cases hf
      · cases hf
theorem rn_tysat {cA : Nat → ClassId} {k : Nat} (hk : k < 4) : ∃ ty, (rn_tys cA)[k]? = some (cA k, ty) := by
  match k, hk with
  | 0, _ => exact ⟨_, rfl⟩
  | 1, _ => exact ⟨_, rfl⟩
  | 2, _ => exact ⟨_, rfl⟩
  | 3, _ => exact ⟨_, rfl⟩
theorem rn_iaload (hd : decode cc pc = .ok (.iaload, 1)) : rn_SS own cc nL hh pc (rn_ra 0) := by
  rintro ⟨p, l, e, R, s, m, args, below, meth, c, D, cA, N0, E, G0, Q⟩ d mc ms ⟨vs, h, nx, pc0, al, st, c0, z0⟩ lS hF hpc hf hk
  cases hpc
  obtain ⟨j, r, x, as, i, v, rfl, h0, ho, hi, hv, rfl⟩ := rn_ra_is hf
  obtain ⟨hx, hb, -, hown, hts, -, hK, -, hFF, -⟩ := hF
  intro G ws H locs ls stk hR hL hs
  obtain ⟨u, r1, rfl, g4, g5⟩ := rn_gs.pop hs
  obtain ⟨w, r2, rfl, ⟨q, hq, rfl⟩, g7⟩ := rn_gs.pop g5
  obtain ⟨y, rfl⟩ := rn_g.int g4 h0
  obtain ⟨e1, e2⟩ := rn_ix_ok hR.2.1 g4 hi
  obtain ⟨dt, hws, hd3⟩ := rn_row hR.2.2.2.1 hq ho
  have hil : i < as.length := (List.getElem?_eq_some_iff.mp hv).1
  rcases dt with f | f | f | f | f
  · have key := hd3.2 i v hv
    rw [← e1] at key
    exact va_iald hx hb hK hR.2.2.2.2.1 j 0 hws rfl (rn_vin e2 hil) hd (hk _ List.mem_cons_self G ws H locs ls _ hR hL ⟨key, g7⟩)
  · cases hd3.1
  · exact hd3.elim
  · exact hd3.elim
  · cases hd3.1
theorem rn_laload (hd : decode cc pc = .ok (.laload, 1)) : rn_SS own cc nL hh pc (rn_ra 1) := by
  rintro ⟨p, l, e, R, s, m, args, below, meth, c, D, cA, N0, E, G0, Q⟩ d mc ms ⟨vs, h, nx, pc0, al, st, c0, z0⟩ lS hF hpc hf hk
  cases hpc
  obtain ⟨j, r, x, as, i, v, rfl, h0, ho, hi, hv, rfl⟩ := rn_ra_is hf
  obtain ⟨hx, hb, -, hown, hts, -, hK, -, hFF, -⟩ := hF
  intro G ws H locs ls stk hR hL hs
  obtain ⟨u, r1, rfl, g4, g5⟩ := rn_gs.pop hs
  obtain ⟨w, r2, rfl, ⟨q, hq, rfl⟩, g7⟩ := rn_gs.pop g5
  obtain ⟨y, rfl⟩ := rn_g.int g4 h0
  obtain ⟨e1, e2⟩ := rn_ix_ok hR.2.1 g4 hi
  obtain ⟨dt, hws, hd3⟩ := rn_row hR.2.2.2.1 hq ho
  have hil : i < as.length := (List.getElem?_eq_some_iff.mp hv).1
  rcases dt with f | f | f | f | f
  · rcases hd3.1 with z | z <;> cases z
  · have key := hd3.2 i v hv
    rw [← e1] at key
    exact va_lald hx hb hK hR.2.2.2.2.1 j 1 hws rfl (rn_vin e2 hil) hd (hk _ List.mem_cons_self G ws H locs ls _ hR hL ⟨key, g7⟩)
  · exact hd3.elim
  · exact hd3.elim
  · cases hd3.1
theorem rn_baload (hd : decode cc pc = .ok (.baload, 1)) : rn_SS own cc nL hh pc (rn_ra 2) := by
  rintro ⟨p, l, e, R, s, m, args, below, meth, c, D, cA, N0, E, G0, Q⟩ d mc ms ⟨vs, h, nx, pc0, al, st, c0, z0⟩ lS hF hpc hf hk
  cases hpc
  obtain ⟨j, r, x, as, i, v, rfl, h0, ho, hi, hv, rfl⟩ := rn_ra_is hf
  obtain ⟨hx, hb, -, hown, hts, -, hK, -, hFF, -⟩ := hF
  intro G ws H locs ls stk hR hL hs
  obtain ⟨u, r1, rfl, g4, g5⟩ := rn_gs.pop hs
  obtain ⟨w, r2, rfl, ⟨q, hq, rfl⟩, g7⟩ := rn_gs.pop g5
  obtain ⟨y, rfl⟩ := rn_g.int g4 h0
  obtain ⟨e1, e2⟩ := rn_ix_ok hR.2.1 g4 hi
  obtain ⟨dt, hws, hd3⟩ := rn_row hR.2.2.2.1 hq ho
  have hil : i < as.length := (List.getElem?_eq_some_iff.mp hv).1
  rcases dt with f | f | f | f | f
  · have key := hd3.2 i v hv
    rw [← e1] at key
    exact va_zald hx hb hK hR.2.2.2.2.1 j 2 hws rfl (rn_vin e2 hil) hd (hk _ List.mem_cons_self G ws H locs ls _ hR hL ⟨key, g7⟩)
  · cases hd3.1
  · exact hd3.elim
  · exact hd3.elim
  · cases hd3.1
theorem rn_aaload (hd : decode cc pc = .ok (.aaload, 1)) : rn_SS own cc nL hh pc (rn_ra 3) := by
  rintro ⟨p, l, e, R, s, m, args, below, meth, c, D, cA, N0, E, G0, Q⟩ d mc ms ⟨vs, h, nx, pc0, al, st, c0, z0⟩ lS hF hpc hf hk
  cases hpc
  obtain ⟨j, r, x, as, i, v, rfl, h0, ho, hi, hv, rfl⟩ := rn_ra_is hf
  obtain ⟨hx, hb, -, hown, hts, -, hK, -, hFF, -⟩ := hF
  intro G ws H locs ls stk hR hL hs
  obtain ⟨u, r1, rfl, g4, g5⟩ := rn_gs.pop hs
  obtain ⟨w, r2, rfl, ⟨q, hq, rfl⟩, g7⟩ := rn_gs.pop g5
  obtain ⟨y, rfl⟩ := rn_g.int g4 h0
  obtain ⟨e1, e2⟩ := rn_ix_ok hR.2.1 g4 hi
  obtain ⟨dt, hws, hd3⟩ := rn_row hR.2.2.2.1 hq ho
  have hil : i < as.length := (List.getElem?_eq_some_iff.mp hv).1
  rcases dt with f | f | f | f | f
  · rcases hd3.1 with z | z <;> cases z
  · cases hd3.1
  · exact hd3.elim
  · exact hd3.elim
  · have key := hd3.2 i v hv
    rw [← e1] at key
    exact va_aldq hx hb hK hR.2.2.2.2.1 j 3 hws rfl (rn_vin e2 hil) hd (hk _ List.mem_cons_self G ws H locs ls _ hR hL ⟨key, g7⟩)
/-! stores into arrays -/
def rn_rs (kd tk : Nat) : Nat → Nat → rn_S → Option (List rn_S) := fun _ _ (vs, h, nx, pc, al, st, c, z) => match st with
  | v :: x :: a :: r => cond (rn_isI x && rn_fk tk vs v) (match a with
    | .inr (.inr (.inl j)) => match h[j]? with
      | some (.inl o) => cond (Nat.beq o.1 kd) (match rn_ix vs x with
        | none => none
        | some i => cond (Nat.blt i o.2.length) (some [(vs, h.set j (.inl (kd, o.2.set i v)), nx, pc + 1, al, r, c, z)]) none) none
      | _ => none
    | _ => none) none
  | _ => none
theorem rn_rs_is {kd tk mc ms : Nat} {vs : List (List Nat)} {h : List rn_C} {nx pc : Nat} {al : List (Nat × rn_V)} {st : List rn_V} {c z : Nat} {l : List rn_S} (hf : rn_rs kd tk mc ms (vs, h, nx, pc, al, st, c, z) = some l) :
    ∃ j r x as i v, st = v :: x :: .inr (.inr (.inl j)) :: r ∧ rn_isI x = true ∧ rn_fk tk vs v = true ∧ h[j]? = some (.inl (kd, as)) ∧ rn_ix vs x = some i ∧ i < as.length ∧ l = [(vs, h.set j (.inl (kd, as.set i v)), nx, pc + 1, al, r, c, z)] := by
  unfold rn_rs at hf
  dsimp only at hf
  rcases st with _ | ⟨v, _ | ⟨x, _ | ⟨a, r⟩⟩⟩
  · cases hf
  · cases hf
  · cases hf
  · dsimp only at hf
    cases h0 : (rn_isI x && rn_fk tk vs v) with
    | false => rw [h0] at hf; cases hf
    | true =>
      rw [h0, cond_true] at hf
      rw [Bool.and_eq_true] at h0
      rcases a with a | a | j | a
      · cases hf
      · cases hf
      · dsimp only at hf
        split at hf
        · rename_i o ho
          cases hc : Nat.beq o.1 kd with
          | false => rw [hc] at hf; cases hf
          | true =>
            rw [hc, cond_true] at hf
            have e : o.1 = kd := Nat.eq_of_beq_eq_true hc
            cases hi : rn_ix vs x with
            | none => rw [hi] at hf; cases hf
            | some i =>
              rw [hi] at hf
              dsimp only at hf
              cases hv : Nat.blt i o.2.length with
              | false => rw [hv] at hf; cases hf
              | true =>
                rw [hv] at hf
                cases hf
                obtain ⟨oc, ofs⟩ := o
                dsimp only at e hv
                subst e
                exact ⟨j, r, x, ofs, i, v, rfl, h0.1, h0.2, ho, hi, Nat.le_of_ble_eq_true hv, rfl⟩
        · cases hf
      · cases hf
theorem rn_upd {α : Type} {E : rn_E} {G : rn_G} {as : List rn_V} {f g : Nat → α} {V : α → Value} (hf : ∀ (j : Nat) (a : rn_V), as[j]? = some a → rn_g E G a (V (f j))) {i : Nat} {v : rn_V} (hv : rn_g E G v (V (g i))) (hg : ∀ j, j ≠ i → g j = f j) (j : Nat) (a : rn_V) (h : (as.set i v)[j]? = some a) : rn_g E G a (V (g j)) := by
  by_cases e : j = i
  · subst e
    have hl : j < (as.set j v).length := (List.getElem?_eq_some_iff.mp h).1
    rw [List.length_set] at hl
    rw [List.getElem?_set_self hl] at h
    cases h
    exact hv
  · rw [List.getElem?_set_ne (Ne.symm e)] at h
    rw [hg j e]
    exact hf j a h
theorem rn_z1 {y : Int32} (h : narrow .boolean (.int y) = .int y) : vp_nar .boolean y = y := by
  unfold vp_nar
  rw [h]
theorem rn_iastore (hd : decode cc pc = .ok (.iastore, 1)) : rn_SS own cc nL hh pc (rn_rs 0 0) := by
  rintro ⟨p, l, e, R, s, m, args, below, meth, c, D, cA, N0, E, G0, Q⟩ d mc ms ⟨vs, h, nx, pc0, al, st, c0, z0⟩ lS hF hpc hf hk
  cases hpc
  obtain ⟨j, r, x, as, i, v, rfl, h0, hfk, ho, hi, hil, rfl⟩ := rn_rs_is hf
  obtain ⟨hx, hb, -, hown, hts, -, hK, -, hFF, -⟩ := hF
  intro G ws H locs ls stk hR hL hs
  obtain ⟨u0, r0, rfl, g1, g2⟩ := rn_gs.pop hs
  obtain ⟨u, r1, rfl, g4, g5⟩ := rn_gs.pop g2
  obtain ⟨w, r2, rfl, ⟨q, hq, rfl⟩, g9⟩ := rn_gs.pop g5
  obtain ⟨y, rfl⟩ := rn_g.int g4 h0
  obtain ⟨x0, rfl⟩ := rn_g.int g1 hfk
  obtain ⟨e1, e2⟩ := rn_ix_ok hR.2.1 g4 hi
  obtain ⟨dt, hws, hd3⟩ := rn_row hR.2.2.2.1 hq ho
  rcases dt with f | f | f | f | f
  · exact va_iast hx hb hK hR.2.2.2.2.1 hR.2.2.2.2.2.1 hR.2.2.2.2.2.2 j 0 hws rfl (rn_vin e2 hil) hd fun H1 locs1 hP hD hS =>
      hk _ List.mem_cons_self G _ H1 locs1 ls _ ⟨hR.1, hR.2.1, hR.2.2.1, rn_w.set (w := .inl (cA 0, as.length, .inl (upd f y.toNatClampNeg x0))) hR.2.2.2.1 hws ⟨rfl, by rw [List.length_set], hd3.1, rn_upd (V := Value.int) hd3.2 (by rw [e1, pk_us]; exact g1) (fun j hj => by rw [e1, pk_un hj])⟩, hP, hD, hS⟩ hL g9
  · cases hd3.1
  · exact hd3.elim
  · exact hd3.elim
  · cases hd3.1
theorem rn_lastore (hd : decode cc pc = .ok (.lastore, 1)) : rn_SS own cc nL hh pc (rn_rs 1 1) := by
  rintro ⟨p, l, e, R, s, m, args, below, meth, c, D, cA, N0, E, G0, Q⟩ d mc ms ⟨vs, h, nx, pc0, al, st, c0, z0⟩ lS hF hpc hf hk
  cases hpc
  obtain ⟨j, r, x, as, i, v, rfl, h0, hfk, ho, hi, hil, rfl⟩ := rn_rs_is hf
  obtain ⟨hx, hb, -, hown, hts, -, hK, -, hFF, -⟩ := hF
  intro G ws H locs ls stk hR hL hs
  obtain ⟨u0, r0, rfl, g1, g2⟩ := rn_gs.pop hs
  obtain ⟨u, r1, rfl, g4, g5⟩ := rn_gs.pop g2
  obtain ⟨w, r2, rfl, ⟨q, hq, rfl⟩, g9⟩ := rn_gs.pop g5
  obtain ⟨y, rfl⟩ := rn_g.int g4 h0
  obtain ⟨x0, rfl⟩ := rn_g.long g1 hfk
  obtain ⟨e1, e2⟩ := rn_ix_ok hR.2.1 g4 hi
  obtain ⟨dt, hws, hd3⟩ := rn_row hR.2.2.2.1 hq ho
  rcases dt with f | f | f | f | f
  · rcases hd3.1 with z | z <;> cases z
  · exact va_last hx hb hK hR.2.2.2.2.1 hR.2.2.2.2.2.1 hR.2.2.2.2.2.2 j 1 hws rfl (rn_vin e2 hil) hd fun H1 locs1 hP hD hS =>
      hk _ List.mem_cons_self G _ H1 locs1 ls _ ⟨hR.1, hR.2.1, hR.2.2.1, rn_w.set (w := .inl (cA 1, as.length, .inr (.inl (vp_updL f y.toNatClampNeg x0)))) hR.2.2.2.1 hws ⟨rfl, by rw [List.length_set], hd3.1, rn_upd (V := Value.long) hd3.2 (by rw [e1, pk_uLs]; exact g1) (fun j hj => by rw [e1, pk_uLn hj])⟩, hP, hD, hS⟩ hL g9
  · exact hd3.elim
  · exact hd3.elim
  · cases hd3.1
theorem rn_bastore (hd : decode cc pc = .ok (.bastore, 1)) : rn_SS own cc nL hh pc (rn_rs 2 2) := by
  rintro ⟨p, l, e, R, s, m, args, below, meth, c, D, cA, N0, E, G0, Q⟩ d mc ms ⟨vs, h, nx, pc0, al, st, c0, z0⟩ lS hF hpc hf hk
  cases hpc
  obtain ⟨j, r, x, as, i, v, rfl, h0, hfk, ho, hi, hil, rfl⟩ := rn_rs_is hf
  obtain ⟨hx, hb, -, hown, hts, -, hK, -, hFF, -⟩ := hF
  intro G ws H locs ls stk hR hL hs
  obtain ⟨u0, r0, rfl, g1, g2⟩ := rn_gs.pop hs
  obtain ⟨u, r1, rfl, g4, g5⟩ := rn_gs.pop g2
  obtain ⟨w, r2, rfl, ⟨q, hq, rfl⟩, g9⟩ := rn_gs.pop g5
  obtain ⟨y, rfl⟩ := rn_g.int g4 h0
  have hnf := rn_fk_ok hR.2.1 (Or.inr (Or.inr (Or.inl ⟨rfl, rfl⟩))) g1 hfk
  obtain ⟨x0, rfl⟩ : ∃ x0 : Int32, u0 = .int x0 := rn_g.int g1 (by have := hfk; unfold rn_fk at this; exact (Bool.and_eq_true _ _ ▸ this).1)
  obtain ⟨e1, e2⟩ := rn_ix_ok hR.2.1 g4 hi
  obtain ⟨dt, hws, hd3⟩ := rn_row hR.2.2.2.1 hq ho
  rcases dt with f | f | f | f | f
  · exact va_zast hx hb hK hR.2.2.2.2.1 hR.2.2.2.2.2.1 hR.2.2.2.2.2.2 j 2 hws rfl (rn_vin e2 hil) hd fun H1 locs1 hP hD hS =>
      hk _ List.mem_cons_self G _ H1 locs1 ls _ ⟨hR.1, hR.2.1, hR.2.2.1, rn_w.set (w := .inl (cA 2, as.length, .inl (upd f y.toNatClampNeg (vp_nar .boolean x0)))) hR.2.2.2.1 hws ⟨rfl, by rw [List.length_set], hd3.1, rn_upd (V := Value.int) hd3.2 (by rw [e1, pk_us, rn_z1 hnf.1]; exact g1) (fun j hj => by rw [e1, pk_un hj])⟩, hP, hD, hS⟩ hL g9
  · cases hd3.1
  · exact hd3.elim
  · exact hd3.elim
  · cases hd3.1
/-- a thing of the world into a row of objects -/
def rn_ro3 : Nat → Nat → rn_S → Option (List rn_S) := fun mc ms (vs, h, nx, pc, al, st, c, z) => match st with
  | .inr (.inr (.inl k)) :: _ => match h[k]? with
    | some (.inr _) => rn_rs 3 3 mc ms (vs, h, nx, pc, al, st, c, z)
    | _ => none
  | _ => none
theorem rn_aastore (hd : decode cc pc = .ok (.aastore, 1)) (hw : ∀ r ∈ rn_cl, rn_wok (.castable r.1 "java/lang/Object") = true) : rn_SS own cc nL hh pc rn_ro3 := by
  rintro ⟨p, l, e, R, s, m, args, below, meth, c, D, cA, N0, E, G0, Q⟩ d mc ms ⟨vs, h, nx, pc0, al, st, c0, z0⟩ lS hF hpc hf hk
  cases hpc
  unfold rn_ro3 at hf
  dsimp only at hf
  split at hf
  · rename_i kk rr
    split at hf
    · rename_i ob hob
      obtain ⟨j, r, x, as, i, v, e0, h0, hfk, ho, hi, hil, rfl⟩ := rn_rs_is hf
      cases e0
      obtain ⟨hx, hb, -, hown, hts, -, hK, -, hFF, -⟩ := hF
      intro G ws H locs ls stk hR hL hs
      obtain ⟨u0, r0, rfl, g1, g2⟩ := rn_gs.pop hs
      obtain ⟨q0, hq0, e00⟩ := id g1
      subst e00
      obtain ⟨u, r1, rfl, g4, g5⟩ := rn_gs.pop g2
      obtain ⟨w, r2, rfl, ⟨q, hq, rfl⟩, g9⟩ := rn_gs.pop g5
      obtain ⟨y, rfl⟩ := rn_g.int g4 h0
      obtain ⟨e1, e2⟩ := rn_ix_ok hR.2.1 g4 hi
      obtain ⟨dt, hws, hd3⟩ := rn_row hR.2.2.2.1 hq ho
      obtain ⟨fs0, hws0, -⟩ := rn_obj hR.2.2.2.1 hq0 hob
      rcases dt with f | f | f | f | f
      · rcases hd3.1 with z | z <;> cases z
      · cases hd3.1
      · exact hd3.elim
      · exact hd3.elim
      · obtain ⟨rc, hrc, -⟩ := hR.2.2.2.2.1 kk _ hws0
        have hca : va_Nw (.castable rc.1 "java/lang/Object") s := va_Nw.of rfl (rn_wd hts hFF (hw rc (List.mem_of_getElem? hrc)))
        exact va_astqO hx hb hK hR.2.2.2.2.1 hR.2.2.2.2.2.1 hR.2.2.2.2.2.2 j 3 kk ob.1 hws rfl hca hws0 hrc (rn_vin e2 hil) hd fun H1 locs1 hP hD hS =>
          hk _ List.mem_cons_self G _ H1 locs1 ls _ ⟨hR.1, hR.2.1, hR.2.2.1, rn_w.set (w := .inl (cA 3, as.length, .inr (.inr (.inr (.inr (va_up f y.toNatClampNeg (some q0))))))) hR.2.2.2.1 hws ⟨rfl, by rw [List.length_set], hd3.1, rn_upd (V := va_rf) hd3.2 (by rw [e1]; show rn_g E G _ (va_rf (if i = i then some q0 else f i)); rw [if_pos rfl]; exact g1) (fun j hj => by rw [e1]; exact if_neg hj)⟩, hP, hD, hS⟩ hL g9
    · cases hf
  · cases hf
end RNH
