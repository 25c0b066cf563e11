section RNG
/-- what the tables say of a class of the world -/
def rn_ck (ci : Nat) (C : String) (T : u_T) (N : Nat) (ty : Nat → FieldType) : Prop := rn_cl[ci]? = some (C, T, N) ∧ (∀ w ∈ u_ws C T N, w ∈ rn_ALL) ∧ (∀ k, k < N → parseFieldDescriptor (T k).2.2.1 = some (ty k)) ∧ (∀ a, a < N → ∀ b, b < N → a ≠ b → (T a).2.1 ≠ (T b).2.1)
theorem rn_obj {E : rn_E} {G : rn_G} {cA : Nat → ClassId} {h : List rn_C} {ws : va_W} (hw : rn_w E G cA h ws) {j q : Nat} (hq : G.1[j]? = some q) {o : Nat × List rn_V} (ho : h[j]? = some (.inr o)) : ∃ fs, ws[j]? = some (q, .inr (o.1, fs)) ∧ rn_gs E G o.2 fs := by
  obtain ⟨w, h1, h2⟩ := hw.at hq ho
  rcases w with w | w
  · exact h2.elim
  · obtain ⟨a, b⟩ := w
    obtain ⟨e1, e2⟩ := h2
    cases e1
    exact ⟨b, h1, e2⟩
theorem rn_row {E : rn_E} {G : rn_G} {cA : Nat → ClassId} {h : List rn_C} {ws : va_W} (hw : rn_w E G cA h ws) {j q : Nat} (hq : G.1[j]? = some q) {o : Nat × List rn_V} (ho : h[j]? = some (.inl o)) : ∃ d, ws[j]? = some (q, .inl (cA o.1, o.2.length, d)) ∧ rn_arr E G o.1 o.2 d := by
  obtain ⟨w, h1, h2⟩ := hw.at hq ho
  rcases w with w | w
  · obtain ⟨a, b, d⟩ := w
    obtain ⟨e1, e2, e3⟩ := h2
    cases e1; cases e2
    exact ⟨d, h1, e3⟩
  · exact h2.elim
theorem rn_sm {args : Array Value} {s : State} (hts : ∀ w ∈ rn_ALL, w.before args s = true) {ref o n d : String} (h : ref = o ∨ Cond.sameField ref o n d ∈ rn_ALL) (x : ClassId × Class × Nat × Field) (hx : s.fieldFound? o n d = some x) : s.fieldFound? ref n d = some x := by
  rcases h with e | h
  · rw [e]; exact hx
  · exact u_same (hts _ h) x hx
theorem rn_F.bad {E : rn_E} {N0 : Nat} {s : State} (h : rn_F E N0 s) : ∀ w ∈ lw_tbl, rn_badw w = true → va_Nw w s := h.2.2.2.2.2.2.2.1
variable {own : String} {cc : ByteArray} {nL : Nat} {hh : rn_H} {pc : Nat}
def rn_gf (ci k : Nat) : Nat → Nat → rn_S → Option (List rn_S) := fun _ _ (vs, h, nx, pc, al, st, c, z) => match st with
  | a :: r => match a with
    | .inr (.inr (.inl j)) => match h[j]? with
      | some (.inr o) => cond (Nat.beq o.1 ci) (match o.2[k]? with
        | some v => some [(vs, h, nx, pc + 3, al, v :: r, c, z)]
        | none => none) none
      | _ => none
    | _ => none
  | _ => none
theorem rn_gf_is {ci k mc ms : Nat} {vs : List (List Nat)} {h : List rn_C} {nx pc : Nat} {al : List (Nat × rn_V)} {st : List rn_V} {c z : Nat} {l : List rn_S} (hf : rn_gf ci k mc ms (vs, h, nx, pc, al, st, c, z) = some l) :
    ∃ j r fs v, st = .inr (.inr (.inl j)) :: r ∧ h[j]? = some (.inr (ci, fs)) ∧ fs[k]? = some v ∧ l = [(vs, h, nx, pc + 3, al, v :: r, c, z)] := by
  unfold rn_gf at hf
  dsimp only at hf
  split at hf
  · split at hf
    · rename_i r _ j
      split at hf
      · rename_i o ho
        cases hc : Nat.beq o.1 ci with
        | false => rw [hc] at hf; cases hf
        | true =>
          rw [hc, cond_true] at hf
          have e : o.1 = ci := Nat.eq_of_beq_eq_true hc
          cases hv : o.2[k]? with
          | none => rw [hv] at hf; cases hf
          | some v =>
            rw [hv] at hf
            cases hf
            obtain ⟨oc, ofs⟩ := o
            dsimp only at e hv
            subst e
            exact ⟨j, r, ofs, v, rfl, ho, hv, rfl⟩
      · cases hf
    · cases hf
  · cases hf
theorem rn_getf {index ci k N : Nat} {C ref : String} {T : u_T} {ty : Nat → FieldType} (hck : rn_ck ci C T N ty) (hd : decode cc pc = .ok (.getfield index, 3)) (hkN : k < N) (hw : Cond.fieldLink own index ref (T k).2.1 (T k).2.2.1 ∈ rn_ALL) (hsm : ref = (T k).1 ∨ Cond.sameField ref (T k).1 (T k).2.1 (T k).2.2.1 ∈ rn_ALL) : rn_SS own cc nL hh pc (rn_gf ci k) := by
  rintro ⟨p, l, e, R, s, m, args, below, meth, c, D, cA, N0, E, G0, Q⟩ d mc ms ⟨vs, h, nx, pc0, al, st, c0, z0⟩ lS hF hpc hf hk
  cases hpc
  obtain ⟨j, r, fs, v, rfl, ho, hv, rfl⟩ := rn_gf_is hf
  obtain ⟨hx, hb, -, hown, hts, -, hK, -, hFF, -⟩ := hF
  intro G ws H locs ls stk hR hL hs
  obtain ⟨u, r1, rfl, ⟨q, hq, rfl⟩, g5⟩ := rn_gs.pop hs
  obtain ⟨fs', hws, hgs⟩ := rn_obj hR.2.2.2.1 hq ho
  obtain ⟨u', hu, hg⟩ := rn_gs.at hgs hv
  exact va_get hx hb hts hck.2.1 hown hK hR.2.2.2.2.1 j hws hck.1 k hkN (hts _ hw) (rn_sm hts hsm) hu hd (hk _ List.mem_cons_self G ws H locs ls _ hR hL ⟨hg, g5⟩)
theorem rn_getfN {index ci k N : Nat} {C ref host : String} {T : u_T} {ty : Nat → FieldType} (hck : rn_ck ci C T N ty) (hd : decode cc pc = .ok (.getfield index, 3)) (hkN : k < N) (hw : Cond.fieldLinkNest own index ref (T k).2.1 (T k).2.2.1 host ∈ lw_tbl) (hsm : ref = (T k).1 ∨ Cond.sameField ref (T k).1 (T k).2.1 (T k).2.2.1 ∈ rn_ALL) : rn_SS own cc nL hh pc (rn_gf ci k) := by
  rintro ⟨p, l, e, R, s, m, args, below, meth, c, D, cA, N0, E, G0, Q⟩ d mc ms ⟨vs, h, nx, pc0, al, st, c0, z0⟩ lS hF hpc hf hk
  cases hpc
  obtain ⟨j, r, fs, v, rfl, ho, hv, rfl⟩ := rn_gf_is hf
  obtain ⟨hx, hb, -, hown, hts, -, hK, -, hFF, -⟩ := hF
  intro G ws H locs ls stk hR hL hs
  obtain ⟨u, r1, rfl, ⟨q, hq, rfl⟩, g5⟩ := rn_gs.pop hs
  obtain ⟨fs', hws, hgs⟩ := rn_obj hR.2.2.2.1 hq ho
  obtain ⟨u', hu, hg⟩ := rn_gs.at hgs hv
  exact va_getN hx hb hts hck.2.1 hown hK hR.2.2.2.2.1 j hws hck.1 k hkN (va_Nw.use rfl (hFF.bad _ hw rfl)) (rn_sm hts hsm) hu hd (hk _ List.mem_cons_self G ws H locs ls _ hR hL ⟨hg, g5⟩)
/-- does a value fit a field: 0 int, 1 long, 2 boolean, 3 a reference -/
def rn_fk (tk : Nat) (vs : List (List Nat)) (a : rn_V) : Bool := match tk with
  | 0 => rn_isI a
  | 1 => rn_isL a
  | 2 => rn_isI a && (match rn_hull vs a with
    | some r => decide (0 ≤ r.1) && decide (r.2 ≤ 1)
    | none => false)
  | 3 => rn_isA a
  | _ => false
def rn_tk (tk : Nat) (ty : FieldType) : Prop := (tk = 0 ∧ ty = .int) ∨ (tk = 1 ∧ ty = .long) ∨ (tk = 2 ∧ ty = .boolean) ∨ (tk = 3 ∧ ((∃ n, ty = .object n) ∨ ∃ t, ty = .array t))
theorem rn_bool {y : Int32} (h1 : 0 ≤ y.toInt) (h2 : y.toInt ≤ 1) : y = 0 ∨ y = 1 := by
  have e0 : (0 : Int32).toInt = 0 := rfl
  have e1 : (1 : Int32).toInt = 1 := rfl
  by_cases h : y.toInt = 0
  · exact Or.inl ((ri_eq _ _).mpr (by rw [h, e0]))
  · exact Or.inr ((ri_eq _ _).mpr (by rw [e1]; omega))
theorem rn_fk_ok {E : rn_E} {G : rn_G} {vs : List (List Nat)} (hv : rn_okV E vs) {tk : Nat} {ty : FieldType} (ht : rn_tk tk ty) {a : rn_V} {u : Value} (hg : rn_g E G a u) (h : rn_fk tk vs a = true) : narrow ty u = u ∧ fits ty u = true := by
  rcases ht with ⟨rfl, rfl⟩ | ⟨rfl, rfl⟩ | ⟨rfl, rfl⟩ | ⟨rfl, ht⟩
  · obtain ⟨y, rfl⟩ := rn_g.int hg h; exact ⟨rfl, rfl⟩
  · obtain ⟨y, rfl⟩ := rn_g.long hg h; exact ⟨rfl, rfl⟩
  · replace h : (rn_isI a && (match rn_hull vs a with
      | some r => decide (0 ≤ r.1) && decide (r.2 ≤ 1)
      | none => false)) = true := h
    rw [Bool.and_eq_true] at h
    cases hh : rn_hull vs a with
    | none => rw [hh] at h; cases h.2
    | some r =>
      rw [hh] at h
      dsimp only at h
      rw [Bool.and_eq_true, decide_eq_true_eq, decide_eq_true_eq] at h
      obtain ⟨y, rfl, a1, a2⟩ := rn_hull_ok hv hh hg
      rcases rn_bool (y := y) (by omega) (by omega) with rfl | rfl
      · exact ⟨rfl, rfl⟩
      · exact ⟨rfl, rfl⟩
  · rcases rn_g.addr hg h with rfl | ⟨q, rfl⟩ <;> rcases ht with ⟨n, rfl⟩ | ⟨t, rfl⟩ <;> exact ⟨rfl, rfl⟩
def rn_pf (ci k tk : Nat) : Nat → Nat → rn_S → Option (List rn_S) := fun _ _ (vs, h, nx, pc, al, st, c, z) => match st with
  | v :: a :: r => match a with
    | .inr (.inr (.inl j)) => match h[j]? with
      | some (.inr o) => cond (Nat.beq o.1 ci && rn_fk tk vs v && Nat.blt k o.2.length) (some [(vs, h.set j (.inr (ci, o.2.set k v)), nx, pc + 3, al, r, c, z)]) none
      | _ => none
    | _ => none
  | _ => none
theorem rn_pf_is {ci k tk mc ms : Nat} {vs : List (List Nat)} {h : List rn_C} {nx pc : Nat} {al : List (Nat × rn_V)} {st : List rn_V} {c z : Nat} {l : List rn_S} (hf : rn_pf ci k tk mc ms (vs, h, nx, pc, al, st, c, z) = some l) :
    ∃ j r fs v, st = v :: .inr (.inr (.inl j)) :: r ∧ h[j]? = some (.inr (ci, fs)) ∧ rn_fk tk vs v = true ∧ k < fs.length ∧ l = [(vs, h.set j (.inr (ci, fs.set k v)), nx, pc + 3, al, r, c, z)] := by
  unfold rn_pf at hf
  dsimp only at hf
  split at hf
  · split at hf
    · rename_i v r _ j
      split at hf
      · rename_i o ho
        cases hc : (Nat.beq o.1 ci && rn_fk tk vs v && Nat.blt k o.2.length) with
        | false => rw [hc] at hf; cases hf
        | true =>
          rw [hc, cond_true] at hf
          rw [Bool.and_eq_true, Bool.and_eq_true] at hc
          have e : o.1 = ci := Nat.eq_of_beq_eq_true hc.1.1
          cases hf
          obtain ⟨oc, ofs⟩ := o
          dsimp only at e
          subst e
          exact ⟨j, r, ofs, v, rfl, ho, hc.1.2, Nat.le_of_ble_eq_true hc.2, rfl⟩
      · cases hf
    · cases hf
  · cases hf
theorem rn_putf {index ci k N tk : Nat} {C ref : String} {T : u_T} {ty : Nat → FieldType} (hck : rn_ck ci C T N ty) (hd : decode cc pc = .ok (.putfield index, 3)) (hkN : k < N) (hw : Cond.fieldLink own index ref (T k).2.1 (T k).2.2.1 ∈ rn_ALL) (hsm : ref = (T k).1 ∨ Cond.sameField ref (T k).1 (T k).2.1 (T k).2.2.1 ∈ rn_ALL) (hfin : (T k).2.2.2 = false) (htk : rn_tk tk (ty k)) : rn_SS own cc nL hh pc (rn_pf ci k tk) := by
  rintro ⟨p, l, e, R, s, m, args, below, meth, c, D, cA, N0, E, G0, Q⟩ d mc ms ⟨vs, h, nx, pc0, al, st, c0, z0⟩ lS hF hpc hf hk
  cases hpc
  obtain ⟨j, r, fs, v, rfl, ho, hfk, hkl, rfl⟩ := rn_pf_is hf
  obtain ⟨hx, hb, -, hown, hts, -, hK, -, hFF, -⟩ := hF
  intro G ws H locs ls stk hR hL hs
  obtain ⟨u, r0, rfl, g4, g5⟩ := rn_gs.pop hs
  obtain ⟨u', r1, rfl, ⟨q, hq, rfl⟩, g7⟩ := rn_gs.pop g5
  obtain ⟨fs', hws, hgs⟩ := rn_obj hR.2.2.2.1 hq ho
  obtain ⟨n1, n2⟩ := rn_fk_ok hR.2.1 htk g4 hfk
  exact va_put hx hb hts hck.2.1 ty hck.2.2.1 hck.2.2.2 hown hK hR.2.2.2.2.1 hR.2.2.2.2.2.1 hR.2.2.2.2.2.2 j hws hck.1 k hkN (hts _ hw) (rn_sm hts hsm) hfin (hck.2.2.1 k hkN) n1 n2 (by rw [rn_gs.len hgs]; exact hkl) hd fun H1 locs1 hP hD hS =>
    hk _ List.mem_cons_self G _ H1 locs1 ls _ ⟨hR.1, hR.2.1, hR.2.2.1, rn_w.set (w := .inr (ci, fs'.set k u)) hR.2.2.2.1 hws ⟨rfl, rn_gs.set g4 hgs k⟩, hP, hD, hS⟩ hL g7
theorem rn_putfN {index ci k N tk : Nat} {C ref host : String} {T : u_T} {ty : Nat → FieldType} (hck : rn_ck ci C T N ty) (hd : decode cc pc = .ok (.putfield index, 3)) (hkN : k < N) (hw : Cond.fieldLinkNest own index ref (T k).2.1 (T k).2.2.1 host ∈ lw_tbl) (hsm : ref = (T k).1 ∨ Cond.sameField ref (T k).1 (T k).2.1 (T k).2.2.1 ∈ rn_ALL) (hfin : (T k).2.2.2 = false) (htk : rn_tk tk (ty k)) : rn_SS own cc nL hh pc (rn_pf ci k tk) := by
  rintro ⟨p, l, e, R, s, m, args, below, meth, c, D, cA, N0, E, G0, Q⟩ d mc ms ⟨vs, h, nx, pc0, al, st, c0, z0⟩ lS hF hpc hf hk
  cases hpc
  obtain ⟨j, r, fs, v, rfl, ho, hfk, hkl, rfl⟩ := rn_pf_is hf
  obtain ⟨hx, hb, -, hown, hts, -, hK, -, hFF, -⟩ := hF
  intro G ws H locs ls stk hR hL hs
  obtain ⟨u, r0, rfl, g4, g5⟩ := rn_gs.pop hs
  obtain ⟨u', r1, rfl, ⟨q, hq, rfl⟩, g7⟩ := rn_gs.pop g5
  obtain ⟨fs', hws, hgs⟩ := rn_obj hR.2.2.2.1 hq ho
  obtain ⟨n1, n2⟩ := rn_fk_ok hR.2.1 htk g4 hfk
  exact va_putN hx hb hts hck.2.1 ty hck.2.2.1 hck.2.2.2 hown hK hR.2.2.2.2.1 hR.2.2.2.2.2.1 hR.2.2.2.2.2.2 j hws hck.1 k hkN (va_Nw.use rfl (hFF.bad _ hw rfl)) (rn_sm hts hsm) hfin (hck.2.2.1 k hkN) n1 n2 (by rw [rn_gs.len hgs]; exact hkl) hd fun H1 locs1 hP hD hS =>
    hk _ List.mem_cons_self G _ H1 locs1 ls _ ⟨hR.1, hR.2.1, hR.2.2.1, rn_w.set (w := .inr (ci, fs'.set k u)) hR.2.2.2.1 hws ⟨rfl, rn_gs.set g4 hgs k⟩, hP, hD, hS⟩ hL g7
/-- a final field, in the constructor of its class -/
theorem rn_putfF {index ci k N tk : Nat} {C : String} {T : u_T} {ty : Nat → FieldType} (hck : rn_ck ci C T N ty) (hd : decode cc pc = .ok (.putfield index, 3)) (hkN : k < N) (hw : Cond.fieldLink own index (T k).1 (T k).2.1 (T k).2.2.1 ∈ rn_ALL) (hfin : (T k).2.2.2 = true) (hdecl : (T k).1 = own) (htk : rn_tk tk (ty k)) (hin : hh.2.1 = "<init>") : rn_SS own cc nL hh pc (rn_pf ci k tk) := by
  rintro ⟨p, l, e, R, s, m, args, below, meth, c, D, cA, N0, E, G0, Q⟩ d mc ms ⟨vs, h, nx, pc0, al, st, c0, z0⟩ lS hF hpc hf hk
  cases hpc
  obtain ⟨j, r, fs, v, rfl, ho, hfk, hkl, rfl⟩ := rn_pf_is hf
  obtain ⟨hx, hb, -, hown, hts, -, hK, -, hFF, ⟨-, hnm, -⟩, -⟩ := hF
  intro G ws H locs ls stk hR hL hs
  obtain ⟨u, r0, rfl, g4, g5⟩ := rn_gs.pop hs
  obtain ⟨u', r1, rfl, ⟨q, hq, rfl⟩, g7⟩ := rn_gs.pop g5
  obtain ⟨fs', hws, hgs⟩ := rn_obj hR.2.2.2.1 hq ho
  obtain ⟨n1, n2⟩ := rn_fk_ok hR.2.1 htk g4 hfk
  exact va_putF hx hb hts hck.2.1 ty hck.2.2.1 hck.2.2.2 hown hK hR.2.2.2.2.1 hR.2.2.2.2.2.1 hR.2.2.2.2.2.2 j hws hck.1 k hkN (hts _ hw) (fun _ h9 => h9) hfin (hnm.trans hin) hdecl (hck.2.2.1 k hkN) n1 n2 (by rw [rn_gs.len hgs]; exact hkl) hd fun H1 locs1 hP hD hS =>
    hk _ List.mem_cons_self G _ H1 locs1 ls _ ⟨hR.1, hR.2.1, hR.2.2.1, rn_w.set (w := .inr (ci, fs'.set k u)) hR.2.2.2.1 hws ⟨rfl, rn_gs.set g4 hgs k⟩, hP, hD, hS⟩ hL g7
end RNG
