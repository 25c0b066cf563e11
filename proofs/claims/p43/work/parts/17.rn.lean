section RNT
variable {own : String} {cc : ByteArray} {nL : Nat} {hh : rn_H} {pc : Nat}
/-! one state looked at as several -/
def rn_cat3 (f : rn_S → Option (List rn_S)) : List rn_S → Option (List rn_S)
  | [] => some []
  | S :: l => match f S with
    | none => none
    | some a => match rn_cat3 f l with
      | none => none
      | some b => some (a ++ b)
theorem rn_cat3_mem {f : rn_S → Option (List rn_S)} : ∀ {l : List rn_S} {r : List rn_S}, rn_cat3 f l = some r → ∀ S ∈ l, ∃ a, f S = some a ∧ ∀ x ∈ a, x ∈ r
  | [], _, _, S, hS => by cases hS
  | S0 :: l, r, h, S, hS => by
    unfold rn_cat3 at h
    cases h1 : f S0 with
    | none => rw [h1] at h; cases h
    | some a =>
      cases h2 : rn_cat3 f l with
      | none => rw [h1, h2] at h; cases h
      | some b =>
        rw [h1, h2] at h
        cases h
        rcases List.mem_cons.mp hS with e | e
        · subst e
          exact ⟨a, h1, fun o ho => List.mem_append_left _ ho⟩
        · obtain ⟨a', h3, h4⟩ := rn_cat3_mem h2 S e
          exact ⟨a', h3, fun o ho => List.mem_append_right _ (h4 o ho)⟩
theorem rn_cov {f F : Nat → Nat → rn_S → Option (List rn_S)} (hF0 : ∀ mc ms S l, F mc ms S = some l → ∃ Ss : List rn_S, rn_cat3 (f mc ms) Ss = some l ∧ (∀ S' ∈ Ss, S'.2.2.2.1 = S.2.2.2.1) ∧ ∀ B : rn_B, (∀ S' ∈ Ss, rn_W nL B S') → rn_W nL B S) (h0 : rn_SS own cc nL hh pc f) : rn_SS own cc nL hh pc F := by
  intro B d mc ms S l hF hpc hf hk
  obtain ⟨Ss, h1, h2, h3⟩ := hF0 mc ms S l hf
  refine h3 B fun S' hS => ?_
  obtain ⟨a, h4, h5⟩ := rn_cat3_mem h1 S' hS
  exact h0 B d mc ms S' a hF ((h2 S' hS).trans hpc) h4 fun x hx => hk x (h5 x hx)
/-- an int between near bounds, each by itself -/
def rn_ea (vs : List (List Nat)) (a : rn_V) : Option (List rn_V) := match rn_hull vs a with
  | none => none
  | some r => cond (decide (r.2 - r.1 ≤ 12)) (some (rn_spl r.1 (r.2 - r.1 + 1).toNat)) none
theorem rn_ea_ok {E : rn_E} {G : rn_G} {vs : List (List Nat)} (hv : rn_okV E vs) {a : rn_V} {L : List rn_V} (h : rn_ea vs a = some L) {u : Value} (hg : rn_g E G a u) : ∃ b ∈ L, rn_g E G b u := by
  unfold rn_ea at h
  cases h1 : rn_hull vs a with
  | none => rw [h1] at h; cases h
  | some r =>
    rw [h1] at h
    dsimp only at h
    cases h2 : decide (r.2 - r.1 ≤ 12) with
    | false => rw [h2] at h; cases h
    | true =>
      rw [h2] at h
      cases h
      obtain ⟨y, rfl, a1, a2⟩ := rn_hull_ok hv h1 hg
      exact rn_spl_ok _ _ a1 (by omega)
/-- a local looked at -/
def rn_lds (i : Nat) (f : Nat → Nat → rn_S → Option (List rn_S)) : Nat → Nat → rn_S → Option (List rn_S) := fun mc ms (vs, h, nx, pc, al, st, c, z) => match rn_find i al with
  | none => none
  | some a => match rn_ea vs a with
    | none => none
    | some L => rn_cat3 (f mc ms) (L.map fun v => (vs, h, nx, pc, (i, v) :: al, st, c, z))
theorem rn_lds_ok {i : Nat} {f : Nat → Nat → rn_S → Option (List rn_S)} (h0 : rn_SS own cc nL hh pc f) : rn_SS own cc nL hh pc (rn_lds i f) := by
  refine rn_cov (fun mc ms S l hf => ?_) h0
  obtain ⟨vs, h, nx, pc0, al, st, c, z⟩ := S
  unfold rn_lds at hf
  dsimp only at hf
  cases h1 : rn_find i al with
  | none => rw [h1] at hf; cases hf
  | some a =>
    rw [h1] at hf
    dsimp only at hf
    cases h2 : rn_ea vs a with
    | none => rw [h2] at hf; cases hf
    | some L =>
      rw [h2] at hf
      refine ⟨_, hf, fun S' hS => ?_, fun B hk => ?_⟩
      · obtain ⟨v, -, rfl⟩ := List.mem_map.mp hS
        rfl
      · obtain ⟨p, l, e, R, s, m, args, below, meth, c1, D, cA, N0, E, G0, Q⟩ := B
        intro G ws H locs ls stk hR hL hs
        obtain ⟨v, h3, h4⟩ := hL.at h1
        obtain ⟨b, hb, hg⟩ := rn_ea_ok hR.2.1 h2 h4
        obtain ⟨l0, ⟨q1, q2, q3⟩, q4⟩ := hL
        refine hk _ (List.mem_map.mpr ⟨b, hb, rfl⟩) G ws H locs ls stk hR ⟨(i, v) :: l0, ⟨q1, q2, fun x hx => ?_⟩, rfl, hg, q4⟩ hs
        rcases List.mem_cons.mp hx with e9 | e9
        · rw [e9]; exact h3
        · exact q3 x e9
theorem rn_sets {α : Type} : ∀ {l : List α} {k : Nat} {x : α}, l[k]? = some x → l.set k x = l
  | [], k, x, h => by simp at h
  | a :: l, 0, x, h => by
    rw [List.getElem?_cons_zero] at h
    cases h
    rfl
  | a :: l, k + 1, x, h => by
    rw [List.getElem?_cons_succ] at h
    show a :: l.set k x = a :: l
    rw [rn_sets h]
/-- an int between near bounds: the least, or one of the others -/
def rn_eb (vs : List (List Nat)) (a : rn_V) : Option (List rn_V) := match rn_hull vs a with
  | none => none
  | some r => cond (decide (r.1 = r.2)) (some [.inl r]) (some [.inl (r.1, r.1), .inl (r.1 + 1, r.2)])
theorem rn_eb_ok {E : rn_E} {G : rn_G} {vs : List (List Nat)} (hv : rn_okV E vs) {a : rn_V} {L : List rn_V} (h : rn_eb vs a = some L) {u : Value} (hg : rn_g E G a u) : ∃ b ∈ L, rn_g E G b u := by
  unfold rn_eb at h
  cases h1 : rn_hull vs a with
  | none => rw [h1] at h; cases h
  | some r =>
    rw [h1] at h
    dsimp only at h
    obtain ⟨y, rfl, a1, a2⟩ := rn_hull_ok hv h1 hg
    cases h2 : decide (r.1 = r.2) with
    | true => rw [h2] at h; cases h; exact ⟨_, List.mem_cons_self, y, rfl, a1, a2⟩
    | false =>
      rw [h2] at h
      cases h
      by_cases e : y.toInt = r.1
      · exact ⟨_, List.mem_cons_self, y, rfl, a1, by show _ ≤ r.1; omega⟩
      · exact ⟨_, List.mem_cons_of_mem _ List.mem_cons_self, y, rfl, by show r.1 + 1 ≤ _; omega, a2⟩
/-- a field looked at -/
def rn_gfs (k : Nat) (f : Nat → Nat → rn_S → Option (List rn_S)) : Nat → Nat → rn_S → Option (List rn_S) := fun mc ms (vs, h, nx, pc, al, st, c, z) => match st with
  | .inr (.inr (.inl j)) :: r => match h[j]? with
    | some (.inr o) => match o.2[k]? with
      | none => none
      | some a => match rn_eb vs a with
        | none => none
        | some L => rn_cat3 (f mc ms) (L.map fun v => (vs, h.set j (.inr (o.1, o.2.set k v)), nx, pc, al, .inr (.inr (.inl j)) :: r, c, z))
    | _ => none
  | _ => none
theorem rn_gfs_ok {k : Nat} {f : Nat → Nat → rn_S → Option (List rn_S)} (h0 : rn_SS own cc nL hh pc f) : rn_SS own cc nL hh pc (rn_gfs k f) := by
  refine rn_cov (fun mc ms S l hf => ?_) h0
  obtain ⟨vs, h, nx, pc0, al, st, c, z⟩ := S
  unfold rn_gfs at hf
  dsimp only at hf
  split at hf
  · rename_i j r
    split at hf
    · rename_i o ho
      cases h1 : o.2[k]? with
      | none => rw [h1] at hf; cases hf
      | some a =>
        rw [h1] at hf
        dsimp only at hf
        cases h2 : rn_eb vs a with
        | none => rw [h2] at hf; cases hf
        | some L =>
          rw [h2] at hf
          refine ⟨_, hf, fun S' hS => ?_, fun B hk => ?_⟩
          · obtain ⟨v, -, rfl⟩ := List.mem_map.mp hS
            rfl
          · obtain ⟨p, l, e, R, s, m, args, below, meth, c1, D, cA, N0, E, G0, Q⟩ := B
            intro G ws H locs ls stk hR hL hs
            obtain ⟨u, r1, e1, ⟨q, hq, e2⟩, g5⟩ := rn_gs.pop hs
            obtain ⟨fs, hws, hgs⟩ := rn_obj hR.2.2.2.1 hq ho
            obtain ⟨u', hu, hg⟩ := rn_gs.at hgs h1
            obtain ⟨b, hb, hg'⟩ := rn_eb_ok hR.2.1 h2 hg
            have hgs' := rn_gs.set hg' hgs k
            rw [rn_sets hu] at hgs'
            have hw' := rn_w.set (c := .inr (o.1, o.2.set k b)) (w := .inr (o.1, fs)) hR.2.2.2.1 hws ⟨rfl, hgs'⟩
            rw [rn_sets hws] at hw'
            exact hk _ (List.mem_map.mpr ⟨b, hb, rfl⟩) G ws H locs ls stk ⟨hR.1, hR.2.1, hR.2.2.1, hw', hR.2.2.2.2⟩ hL hs
    · cases hf
  · cases hf
/-- a remainder by a known number above 0 of a number not below 0, in one piece -/
def rn_oremR (vs : List (List Nat)) (a b : rn_V) : Option (List rn_V) := match rn_hull vs a with
  | none => none
  | some r => match b with
    | .inl q => cond (decide (q.1 = q.2) && decide (0 < q.1) && decide (0 ≤ r.1)) (some [.inl (0, q.1 - 1)]) none
    | _ => none
theorem rn_oremR_ok : rn_O2 rn_oremR (fun x y => x - x / y * y) := by
  intro E G vs a b L x y ht hv ha hb h
  unfold rn_oremR at h
  cases h1 : rn_hull vs a with
  | none => rw [h1] at h; cases h
  | some r =>
    rw [h1] at h
    dsimp only at h
    split at h
    · rename_i q
      cases hc : (decide (q.1 = q.2) && decide (0 < q.1) && decide (0 ≤ r.1)) with
      | false => rw [hc] at h; cases h
      | true =>
        rw [hc] at h
        cases h
        simp only [Bool.and_eq_true, decide_eq_true_eq] at hc
        obtain ⟨⟨c1, c2⟩, c3⟩ := hc
        obtain ⟨x', e, a1, a2⟩ := rn_hull_ok hv h1 ha
        cases e
        obtain ⟨y', e, b1, b2⟩ := hb
        cases e
        have ey : y.toInt = q.1 := by omega
        have hm : (x - x / y * y).toInt = x.toInt.tmod q.1 := by rw [rem_toInt, ey]
        obtain ⟨t1, t2⟩ := tmod_bounds (a := x.toInt) c2
        have hx0 : 0 ≤ x.toInt := by omega
        have he : x.toInt.tmod q.1 = x.toInt % q.1 := Int.tmod_eq_emod_of_nonneg hx0
        have e1 : 0 ≤ x.toInt % q.1 := Int.emod_nonneg _ (by omega)
        exact ⟨_, List.mem_cons_self, _, rfl, by rw [hm, he]; exact e1, by rw [hm]; show _ ≤ q.1 - 1; omega⟩
    · cases h
theorem rn_oremR_nz {E : rn_E} {G : rn_G} {vs : List (List Nat)} {a b : rn_V} {L : List rn_V} {y : Int32} (hb : rn_g E G b (.int y)) (h : rn_oremR vs a b = some L) : ¬ y = 0 := by
  unfold rn_oremR at h
  cases h1 : rn_hull vs a with
  | none => rw [h1] at h; cases h
  | some r =>
    rw [h1] at h
    dsimp only at h
    split at h
    · rename_i q
      cases hc : (decide (q.1 = q.2) && decide (0 < q.1) && decide (0 ≤ r.1)) with
      | false => rw [hc] at h; cases h
      | true =>
        simp only [Bool.and_eq_true, decide_eq_true_eq] at hc
        obtain ⟨y', e, b1, b2⟩ := hb
        cases e
        have c2 := hc.1.2
        exact rn_nz (by omega)
    · cases h
theorem rn_iremR (hd : decode cc pc = .ok (.irem, 1)) : rn_SS own cc nL hh pc (rn_b2 rn_oremR 1) := by
  rintro ⟨p, l, e, R, s, m, args, below, meth, c, D, cA, N0, E, G0, Q⟩ d mc ms ⟨vs, h, nx, pc0, al, st, c0, z0⟩ lS hF hpc hf hk
  cases hpc
  obtain ⟨a, b, r, L, rfl, h1, h2, h3, rfl⟩ := rn_b2_is hf
  obtain ⟨hx, hb, -, -, -, -, -, -, hFF, -⟩ := hF
  intro G ws H locs ls stk hR hL hs
  obtain ⟨v, r1, rfl, g4, g5⟩ := rn_gs.pop hs
  obtain ⟨w, r2, rfl, g6, g7⟩ := rn_gs.pop g5
  obtain ⟨y, rfl⟩ := rn_g.int g4 h2
  obtain ⟨x, rfl⟩ := rn_g.int g6 h1
  obtain ⟨q, hq, hg⟩ := rn_oremR_ok E G vs a b L x y hFF.tau hR.2.1 g6 g4 h3
  exact lv_irem hx hb hd (rn_oremR_nz g4 h3) (hk _ (List.mem_map.mpr ⟨q, hq, rfl⟩) G ws H locs ls _ hR hL ⟨hg, g7⟩)
end RNT
