section RNE
variable {own : String} {cc : ByteArray} {nL : Nat} {hh : rn_H} {pc : Nat}
/-- two ints off the stack, one of some on it -/
def rn_b2 (f : List (List Nat) → rn_V → rn_V → Option (List rn_V)) (n : Nat) : Nat → Nat → rn_S → Option (List rn_S) := fun _ _ (vs, h, nx, pc, al, st, c, z) => match st with
  | b :: a :: r => cond (rn_isI a && rn_isI b) (match f vs a b with
    | none => none
    | some L => some (L.map fun x => (vs, h, nx, pc + n, al, x :: r, c, z))) none
  | _ => none
theorem rn_b2_is {f : List (List Nat) → rn_V → rn_V → Option (List rn_V)} {n mc ms : Nat} {vs : List (List Nat)} {h : List rn_C} {nx pc : Nat} {al : List (Nat × rn_V)} {st : List rn_V} {c z : Nat} {l : List rn_S} (hf : rn_b2 f n mc ms (vs, h, nx, pc, al, st, c, z) = some l) :
    ∃ a b r L, st = b :: a :: r ∧ rn_isI a = true ∧ rn_isI b = true ∧ f vs a b = some L ∧ l = L.map fun x => (vs, h, nx, pc + n, al, x :: r, c, z) := by
  unfold rn_b2 at hf
  dsimp only at hf
  rcases st with _ | ⟨b, _ | ⟨a, r⟩⟩
  · cases hf
  · cases hf
  · dsimp only at hf
    cases h2 : (rn_isI a && rn_isI b) with
    | false => rw [h2] at hf; cases hf
    | true =>
      rw [h2, cond_true] at hf
      rw [Bool.and_eq_true] at h2
      cases h3 : f vs a b with
      | none => rw [h3] at hf; cases hf
      | some L => rw [h3] at hf; cases hf; exact ⟨a, b, r, L, rfl, h2.1, h2.2, h3, rfl⟩
theorem rn_iadd (hd : decode cc pc = .ok (.iadd, 1)) : rn_SS own cc nL hh pc (rn_b2 rn_oadd 1) := by
  rintro ⟨p, l, e, R, s, m, args, below, meth, c, D, cA, N0, E, G0, Q⟩ d mc ms ⟨vs, h, nx, pc0, al, st, c0, z0⟩ lS hF hpc hf hk
  cases hpc
  obtain ⟨a, b, r, L, rfl, h1, h2, h3, rfl⟩ := rn_b2_is hf
  obtain ⟨hx, hb, -, -, -, -, -, -, hFF, -⟩ := hF
  intro G ws H locs ls stk hR hL hs
  obtain ⟨v, r1, rfl, g4, g5⟩ := rn_gs.pop hs
  obtain ⟨w, r2, rfl, g6, g7⟩ := rn_gs.pop g5
  obtain ⟨y, rfl⟩ := rn_g.int g4 h2
  obtain ⟨x, rfl⟩ := rn_g.int g6 h1
  obtain ⟨q, hq, hg⟩ := rn_oadd_ok E G vs a b L x y hFF.tau hR.2.1 g6 g4 h3
  exact lv_iadd hx hb hd (hk _ (List.mem_map.mpr ⟨q, hq, rfl⟩) G ws H locs ls _ hR hL ⟨hg, g7⟩)
theorem rn_isub (hd : decode cc pc = .ok (.isub, 1)) : rn_SS own cc nL hh pc (rn_b2 rn_osub 1) := by
  rintro ⟨p, l, e, R, s, m, args, below, meth, c, D, cA, N0, E, G0, Q⟩ d mc ms ⟨vs, h, nx, pc0, al, st, c0, z0⟩ lS hF hpc hf hk
  cases hpc
  obtain ⟨a, b, r, L, rfl, h1, h2, h3, rfl⟩ := rn_b2_is hf
  obtain ⟨hx, hb, -, -, -, -, -, -, hFF, -⟩ := hF
  intro G ws H locs ls stk hR hL hs
  obtain ⟨v, r1, rfl, g4, g5⟩ := rn_gs.pop hs
  obtain ⟨w, r2, rfl, g6, g7⟩ := rn_gs.pop g5
  obtain ⟨y, rfl⟩ := rn_g.int g4 h2
  obtain ⟨x, rfl⟩ := rn_g.int g6 h1
  obtain ⟨q, hq, hg⟩ := rn_osub_ok E G vs a b L x y hFF.tau hR.2.1 g6 g4 h3
  exact lv_isub hx hb hd (hk _ (List.mem_map.mpr ⟨q, hq, rfl⟩) G ws H locs ls _ hR hL ⟨hg, g7⟩)
theorem rn_imul (hd : decode cc pc = .ok (.imul, 1)) : rn_SS own cc nL hh pc (rn_b2 rn_omul 1) := by
  rintro ⟨p, l, e, R, s, m, args, below, meth, c, D, cA, N0, E, G0, Q⟩ d mc ms ⟨vs, h, nx, pc0, al, st, c0, z0⟩ lS hF hpc hf hk
  cases hpc
  obtain ⟨a, b, r, L, rfl, h1, h2, h3, rfl⟩ := rn_b2_is hf
  obtain ⟨hx, hb, -, -, -, -, -, -, hFF, -⟩ := hF
  intro G ws H locs ls stk hR hL hs
  obtain ⟨v, r1, rfl, g4, g5⟩ := rn_gs.pop hs
  obtain ⟨w, r2, rfl, g6, g7⟩ := rn_gs.pop g5
  obtain ⟨y, rfl⟩ := rn_g.int g4 h2
  obtain ⟨x, rfl⟩ := rn_g.int g6 h1
  obtain ⟨q, hq, hg⟩ := rn_omul_ok E G vs a b L x y hFF.tau hR.2.1 g6 g4 h3
  exact lv_imul hx hb hd (hk _ (List.mem_map.mpr ⟨q, hq, rfl⟩) G ws H locs ls _ hR hL ⟨hg, g7⟩)
theorem rn_idiv (hd : decode cc pc = .ok (.idiv, 1)) : rn_SS own cc nL hh pc (rn_b2 rn_odiv 1) := by
  rintro ⟨p, l, e, R, s, m, args, below, meth, c, D, cA, N0, E, G0, Q⟩ d mc ms ⟨vs, h, nx, pc0, al, st, c0, z0⟩ lS hF hpc hf hk
  cases hpc
  obtain ⟨a, b, r, L, rfl, h1, h2, h3, rfl⟩ := rn_b2_is hf
  obtain ⟨hx, hb, -, -, -, -, -, -, hFF, -⟩ := hF
  intro G ws H locs ls stk hR hL hs
  obtain ⟨v, r1, rfl, g4, g5⟩ := rn_gs.pop hs
  obtain ⟨w, r2, rfl, g6, g7⟩ := rn_gs.pop g5
  obtain ⟨y, rfl⟩ := rn_g.int g4 h2
  obtain ⟨x, rfl⟩ := rn_g.int g6 h1
  obtain ⟨q, hq, hg⟩ := rn_odiv_ok E G vs a b L x y hFF.tau hR.2.1 g6 g4 h3
  exact lv_idiv hx hb hd (rn_odiv_nz g4 h3) (hk _ (List.mem_map.mpr ⟨q, hq, rfl⟩) G ws H locs ls _ hR hL ⟨hg, g7⟩)
theorem rn_irem (hd : decode cc pc = .ok (.irem, 1)) : rn_SS own cc nL hh pc (rn_b2 rn_orem 1) := by
  rintro ⟨p, l, e, R, s, m, args, below, meth, c, D, cA, N0, E, G0, Q⟩ d mc ms ⟨vs, h, nx, pc0, al, st, c0, z0⟩ lS hF hpc hf hk
  cases hpc
  obtain ⟨a, b, r, L, rfl, h1, h2, h3, rfl⟩ := rn_b2_is hf
  obtain ⟨hx, hb, -, -, -, -, -, -, hFF, -⟩ := hF
  intro G ws H locs ls stk hR hL hs
  obtain ⟨v, r1, rfl, g4, g5⟩ := rn_gs.pop hs
  obtain ⟨w, r2, rfl, g6, g7⟩ := rn_gs.pop g5
  obtain ⟨y, rfl⟩ := rn_g.int g4 h2
  obtain ⟨x, rfl⟩ := rn_g.int g6 h1
  obtain ⟨q, hq, hg⟩ := rn_orem_ok E G vs a b L x y hFF.tau hR.2.1 g6 g4 h3
  exact lv_irem hx hb hd (rn_orem_nz g4 h3) (hk _ (List.mem_map.mpr ⟨q, hq, rfl⟩) G ws H locs ls _ hR hL ⟨hg, g7⟩)
theorem rn_mmin {index : Nat} (hd : decode cc pc = .ok (.invokestatic index, 3)) (w1 : Cond.methodLink own index Lib.Math.min.name ∈ rn_ALL) (w2 : Cond.static Lib.Math.min.name ∈ rn_ALL) (w3 : Cond.initialized "java/lang/Math" ∈ rn_ALL) (w4 : Cond.code Lib.Math.min.name Lib.Math.min.code 2 (some .int) ∈ rn_ALL) : rn_SS own cc nL hh pc (fun mc ms S => cond (Nat.ble (S.2.2.2.2.2.1.map rn_cat).sum 20 && Nat.ble S.2.2.2.2.2.2.1 mc && Nat.ble S.2.2.2.2.2.2.2 ms) (rn_b2 rn_omin 3 mc ms S) none) := by
  rintro ⟨p, l, e, R, s, m, args, below, meth, c, D, cA, N0, E, G0, Q⟩ d mc ms ⟨vs, h, nx, pc0, al, st, c0, z0⟩ lS hF hpc hf hk
  cases hpc
  dsimp only at hf
  cases hc : (Nat.ble (st.map rn_cat).sum 20 && Nat.ble c0 mc && Nat.ble z0 ms) with
  | false => rw [hc] at hf; cases hf
  | true =>
    rw [hc, cond_true] at hf
    rw [Bool.and_eq_true, Bool.and_eq_true] at hc
    obtain ⟨⟨hc1, hc2⟩, hc3⟩ := hc
    have hc1 := Nat.le_of_ble_eq_true hc1
    have hc2 := Nat.le_of_ble_eq_true hc2
    have hc3 := Nat.le_of_ble_eq_true hc3
    obtain ⟨a, b, r, L, rfl, h1, h2, h3, rfl⟩ := rn_b2_is hf
    obtain ⟨hx, hb, hml, ho, hts, -, -, -, hFF, -, hR1, hR2, hR3, hR4, -⟩ := hF
    intro G ws H locs ls stk hR hL hs
    obtain ⟨v, r1, rfl, g4, g5⟩ := rn_gs.pop hs
    obtain ⟨w, r2, rfl, g6, g7⟩ := rn_gs.pop g5
    obtain ⟨y, rfl⟩ := rn_g.int g4 h2
    obtain ⟨x, rfl⟩ := rn_g.int g6 h1
    obtain ⟨q, hq, hg⟩ := rn_omin_ok E G vs a b L x y hFF.tau hR.2.1 g6 g4 h3
    have hcat := rn_gs.cats g7
    rw [List.map_cons, List.map_cons, List.sum_cons, List.sum_cons] at hc1
    have hlsz : ls.size = nL := by obtain ⟨l0, hl0, -⟩ := hL; exact hl0.1
    have hcell : c0 ≤ R.cells := Nat.le_trans hc2 hR3
    have hslot : z0 ≤ R.slots := Nat.le_trans hc3 hR4
    exact va_mmin hx hb (hml.trans hlsz.symm) ho (hts _ w1) (hts _ w2) (hts _ w3) (hts _ w4) (by omega) (by rw [hcat]; omega) hcell hslot hd (hk _ (List.mem_map.mpr ⟨q, hq, rfl⟩) G ws H locs ls _ hR hL ⟨hg, g7⟩)
theorem rn_mmax {index : Nat} (hd : decode cc pc = .ok (.invokestatic index, 3)) (w1 : Cond.methodLink own index Lib.Math.max.name ∈ rn_ALL) (w2 : Cond.static Lib.Math.max.name ∈ rn_ALL) (w3 : Cond.initialized "java/lang/Math" ∈ rn_ALL) (w4 : Cond.code Lib.Math.max.name Lib.Math.max.code 2 (some .int) ∈ rn_ALL) : rn_SS own cc nL hh pc (fun mc ms S => cond (Nat.ble (S.2.2.2.2.2.1.map rn_cat).sum 20 && Nat.ble S.2.2.2.2.2.2.1 mc && Nat.ble S.2.2.2.2.2.2.2 ms) (rn_b2 rn_omax 3 mc ms S) none) := by
  rintro ⟨p, l, e, R, s, m, args, below, meth, c, D, cA, N0, E, G0, Q⟩ d mc ms ⟨vs, h, nx, pc0, al, st, c0, z0⟩ lS hF hpc hf hk
  cases hpc
  dsimp only at hf
  cases hc : (Nat.ble (st.map rn_cat).sum 20 && Nat.ble c0 mc && Nat.ble z0 ms) with
  | false => rw [hc] at hf; cases hf
  | true =>
    rw [hc, cond_true] at hf
    rw [Bool.and_eq_true, Bool.and_eq_true] at hc
    obtain ⟨⟨hc1, hc2⟩, hc3⟩ := hc
    have hc1 := Nat.le_of_ble_eq_true hc1
    have hc2 := Nat.le_of_ble_eq_true hc2
    have hc3 := Nat.le_of_ble_eq_true hc3
    obtain ⟨a, b, r, L, rfl, h1, h2, h3, rfl⟩ := rn_b2_is hf
    obtain ⟨hx, hb, hml, ho, hts, -, -, -, hFF, -, hR1, hR2, hR3, hR4, -⟩ := hF
    intro G ws H locs ls stk hR hL hs
    obtain ⟨v, r1, rfl, g4, g5⟩ := rn_gs.pop hs
    obtain ⟨w, r2, rfl, g6, g7⟩ := rn_gs.pop g5
    obtain ⟨y, rfl⟩ := rn_g.int g4 h2
    obtain ⟨x, rfl⟩ := rn_g.int g6 h1
    obtain ⟨q, hq, hg⟩ := rn_omax_ok E G vs a b L x y hFF.tau hR.2.1 g6 g4 h3
    have hcat := rn_gs.cats g7
    rw [List.map_cons, List.map_cons, List.sum_cons, List.sum_cons] at hc1
    have hlsz : ls.size = nL := by obtain ⟨l0, hl0, -⟩ := hL; exact hl0.1
    have hcell : c0 ≤ R.cells := Nat.le_trans hc2 hR3
    have hslot : z0 ≤ R.slots := Nat.le_trans hc3 hR4
    exact va_mmax hx hb (hml.trans hlsz.symm) ho (hts _ w1) (hts _ w2) (hts _ w3) (hts _ w4) (by omega) (by rw [hcat]; omega) hcell hslot hd (hk _ (List.mem_map.mpr ⟨q, hq, rfl⟩) G ws H locs ls _ hR hL ⟨hg, g7⟩)
/-! iinc -/
def rn_inc (i : Nat) (n : Int) : Nat → Nat → rn_S → Option (List rn_S) := fun _ _ (vs, h, nx, pc, al, st, c, z) => match rn_find i al with
  | none => none
  | some a => cond (rn_isI a) (match rn_oadd vs a (.inl (n, n)) with
    | none => none
    | some L => some (L.map fun x => (vs, h, nx, pc + 3, rn_st1 i x al, st, c, z))) none
theorem rn_iinc {i : Nat} {n v : Int} (hd : decode cc pc = .ok (.iinc i n, 3)) (hv : (Int32.ofInt n).toInt = v) (hn : i < nL) : rn_SS own cc nL hh pc (rn_inc i v) := by
  rintro ⟨p, l, e, R, s, m, args, below, meth, c, D, cA, N0, E, G0, Q⟩ d mc ms ⟨vs, h, nx, pc0, al, st, c0, z0⟩ lS hF hpc hf hk
  cases hpc
  unfold rn_inc at hf
  dsimp only at hf
  cases h1 : rn_find i al with
  | none => rw [h1] at hf; cases hf
  | some a =>
    rw [h1] at hf
    dsimp only at hf
    cases h2 : rn_isI a with
    | false => rw [h2] at hf; cases hf
    | true =>
      rw [h2, cond_true] at hf
      cases h3 : rn_oadd vs a (.inl (v, v)) with
      | none => rw [h3] at hf; cases hf
      | some L =>
        rw [h3] at hf
        cases hf
        obtain ⟨hx, hb, -, -, -, -, -, -, hFF, -⟩ := hF
        intro G ws H locs ls stk hR hL hs
        obtain ⟨lv, hl1, hl2⟩ := hL
        obtain ⟨w, g1, g2⟩ := rn_gl.at hl2 h1
        obtain ⟨x, rfl⟩ := rn_g.int g2 h2
        obtain ⟨k, hk1⟩ := List.getElem?_of_mem g1
        obtain ⟨q, hq, hg⟩ := rn_oadd_ok E G vs a (.inl (v, v)) L x (Int32.ofInt n) hFF.tau hR.2.1 g2 ⟨_, rfl, by rw [hv]; exact Int.le_refl _, by rw [hv]; exact Int.le_refl _⟩ h3
        exact lv_iinc hx hb hd hl1 hk1 rfl hn rfl fun ls' hl' => hk _ (List.mem_map.mpr ⟨q, hq, rfl⟩) G ws H locs ls' _ hR ⟨_, hl', rn_gl.st1 hl2 i hg⟩ hs
/-! longs -/
def rn_prt (t : Nat) : Nat := cond (Nat.beq (t % 2) 0) (t + 1) (t - 1)
theorem rn_prt_ok {E : rn_E} {io : List Int32} {t : Nat} {x : Int64} (h : rn_tm E io t = some x) : rn_tm E io (rn_prt t) = some (-x) := by
  unfold rn_prt
  cases hp : Nat.beq (t % 2) 0 with
  | true =>
    have h2 : t % 2 = 0 := Nat.eq_of_beq_eq_true hp
    show rn_tm E io (t + 1) = some (-x)
    have hq : (t + 1) / 4 = t / 4 := by omega
    unfold rn_tm at h ⊢
    rw [hq]
    by_cases h0 : t % 4 = 0
    · rw [if_pos h0] at h
      cases h
      rw [if_neg (by omega), if_pos (by omega)]
    · rw [if_neg h0, if_neg (by omega), if_pos (by omega)] at h
      rw [if_neg (by omega), if_neg (by omega), if_neg (by omega)]
      cases hk : io[t / 4]? with
      | none => rw [hk] at h; cases h
      | some y => rw [hk] at h; cases h; rfl
  | false =>
    have h2 : ¬ t % 2 = 0 := fun z => by rw [z] at hp; cases hp
    show rn_tm E io (t - 1) = some (-x)
    have hq : (t - 1) / 4 = t / 4 := by omega
    unfold rn_tm at h ⊢
    rw [hq]
    rw [if_neg (by omega)] at h
    by_cases h0 : t % 4 = 1
    · rw [if_pos h0] at h
      cases h
      rw [if_pos (by omega), Int64.neg_neg]
    · rw [if_neg h0, if_neg (by omega)] at h
      rw [if_neg (by omega), if_neg (by omega), if_pos (by omega)]
      cases hk : io[t / 4]? with
      | none => rw [hk] at h; cases h
      | some y => rw [hk] at h; cases h; show some _ = some _; rw [Int64.neg_neg]
theorem rn_sum_cons {E : rn_E} {io : List Int32} {t : Nat} {ts : List Nat} {x y : Int64} (h1 : rn_tm E io t = some x) (h2 : rn_sum E io ts = some y) : rn_sum E io (t :: ts) = some (x + y) := by
  unfold rn_sum
  rw [h1, h2]
theorem rn_sum_of {E : rn_E} {io : List Int32} {t : Nat} {ts : List Nat} {z : Int64} (h : rn_sum E io (t :: ts) = some z) : ∃ x y, rn_tm E io t = some x ∧ rn_sum E io ts = some y ∧ z = x + y := by
  unfold rn_sum at h
  cases h1 : rn_tm E io t with
  | none => rw [h1] at h; cases h
  | some x =>
    cases h2 : rn_sum E io ts with
    | none => rw [h1, h2] at h; cases h
    | some y => rw [h1, h2] at h; cases h; exact ⟨x, y, rfl, rfl, rfl⟩
/-- ts without t, if it is there -/
def rn_del (t : Nat) : List Nat → Option (List Nat)
  | [] => none
  | a :: l => cond (Nat.beq a t) (some l) ((rn_del t l).map fun l => a :: l)
theorem rn_del_ok {E : rn_E} {io : List Int32} {t : Nat} : ∀ {ts us : List Nat} {z : Int64}, rn_del t ts = some us → rn_sum E io ts = some z → ∃ x y, rn_tm E io t = some x ∧ rn_sum E io us = some y ∧ z = x + y
  | [], _, _, h, _ => by cases h
  | a :: l, us, z, h, hz => by
    unfold rn_del at h
    obtain ⟨x, y, h1, h2, h3⟩ := rn_sum_of hz
    cases hb : Nat.beq a t with
    | true =>
      rw [hb] at h
      cases h
      have e : a = t := Nat.eq_of_beq_eq_true hb
      subst e
      exact ⟨x, y, h1, h2, h3⟩
    | false =>
      rw [hb, cond_false] at h
      cases hd : rn_del t l with
      | none => rw [hd] at h; cases h
      | some us' =>
        rw [hd] at h
        cases h
        obtain ⟨x', y', h4, h5, h6⟩ := rn_del_ok hd h2
        refine ⟨x', x + y', h4, rn_sum_cons h1 h5, ?_⟩
        rw [h3, h6, ← Int64.add_assoc, ← Int64.add_assoc, Int64.add_comm x x']
def rn_ins (t : Nat) (ts : List Nat) : List Nat := match rn_del (rn_prt t) ts with
  | some us => us
  | none => t :: ts
theorem rn_ins_ok {E : rn_E} {io : List Int32} {t : Nat} {ts : List Nat} {x y : Int64} (h1 : rn_tm E io t = some x) (h2 : rn_sum E io ts = some y) : rn_sum E io (rn_ins t ts) = some (x + y) := by
  unfold rn_ins
  cases hd : rn_del (rn_prt t) ts with
  | none => exact rn_sum_cons h1 h2
  | some us =>
    obtain ⟨x', y', h3, h4, h5⟩ := rn_del_ok hd h2
    rw [rn_prt_ok h1] at h3
    cases h3
    show rn_sum E io us = some (x + y)
    rw [h4, h5, ← Int64.add_assoc, Int64.add_right_neg, Int64.zero_add]
def rn_cat2 : List Nat → List Nat → List Nat
  | [], us => us
  | t :: ts, us => rn_ins t (rn_cat2 ts us)
theorem rn_cat2_ok {E : rn_E} {io : List Int32} : ∀ {ts us : List Nat} {x y : Int64}, rn_sum E io ts = some x → rn_sum E io us = some y → rn_sum E io (rn_cat2 ts us) = some (x + y)
  | [], us, x, y, h1, h2 => by
    cases h1
    rw [Int64.zero_add]
    exact h2
  | t :: ts, us, x, y, h1, h2 => by
    obtain ⟨a, b, h3, h4, h5⟩ := rn_sum_of h1
    rw [h5, Int64.add_assoc]
    exact rn_ins_ok h3 (rn_cat2_ok h4 h2)
theorem rn_negs {E : rn_E} {io : List Int32} : ∀ {ts : List Nat} {x : Int64}, rn_sum E io ts = some x → rn_sum E io (ts.map rn_prt) = some (-x)
  | [], x, h => by cases h; rfl
  | t :: ts, x, h => by
    obtain ⟨a, b, h3, h4, h5⟩ := rn_sum_of h
    rw [h5, Int64.neg_add, Int64.sub_eq_add_neg]
    exact rn_sum_cons (rn_prt_ok h3) (rn_negs h4)
abbrev rn_lin (c : Int) (ts : List Nat) : rn_V := .inr (.inr (.inr (.inr (.inr (.inr (c, ts))))))
abbrev rn_al : rn_V := .inr (.inr (.inr (.inl 3)))
def rn_lad (a b : rn_V) : rn_V := match a, b with
  | .inr (.inr (.inr (.inr (.inr (.inr w))))), .inr (.inr (.inr (.inr (.inr (.inr v))))) => rn_lin (w.1 + v.1) (rn_cat2 w.2 v.2)
  | _, _ => rn_al
def rn_lng (a : rn_V) : rn_V := match a with
  | .inr (.inr (.inr (.inr (.inr (.inr w))))) => rn_lin (-w.1) (w.2.map rn_prt)
  | _ => rn_al
theorem rn_al_ok {E : rn_E} {G : rn_G} (y : Int64) : rn_g E G rn_al (.long y) := Or.inr (Or.inr (Or.inr (Or.inl ⟨rfl, y, rfl⟩)))
theorem rn_lad_ok {E : rn_E} {G : rn_G} {a b : rn_V} {x y : Int64} (ha : rn_g E G a (.long x)) (hb : rn_g E G b (.long y)) : rn_g E G (rn_lad a b) (.long (x + y)) := by
  unfold rn_lad
  split
  · obtain ⟨x', h1, h2⟩ := ha
    obtain ⟨y', h3, h4⟩ := hb
    cases h2; cases h4
    refine ⟨_, rn_cat2_ok h1 h3, ?_⟩
    show Value.long _ = Value.long _
    congr 1
    rw [Int64.ofInt_add, Int64.add_assoc, Int64.add_assoc, ← Int64.add_assoc x', Int64.add_comm x', Int64.add_assoc]
  · exact rn_al_ok _
theorem rn_lng_ok {E : rn_E} {G : rn_G} {a : rn_V} {x : Int64} (ha : rn_g E G a (.long x)) : rn_g E G (rn_lng a) (.long (-x)) := by
  unfold rn_lng
  split
  · obtain ⟨x', h1, h2⟩ := ha
    cases h2
    refine ⟨_, rn_negs h1, ?_⟩
    show Value.long _ = Value.long _
    congr 1
    rw [Int64.neg_add, Int64.sub_eq_add_neg, Int64.ofInt_neg]
  · exact rn_al_ok _
/-- two longs off, one value on -/
def rn_l2 (f : rn_V → rn_V → Option rn_V) : Nat → Nat → rn_S → Option (List rn_S) := fun _ _ (vs, h, nx, pc, al, st, c, z) => match st with
  | b :: a :: r => cond (rn_isL a && rn_isL b) (match f a b with
    | none => none
    | some x => some [(vs, h, nx, pc + 1, al, x :: r, c, z)]) none
  | _ => none
theorem rn_l2_is {f : rn_V → rn_V → Option rn_V} {mc ms : Nat} {vs : List (List Nat)} {h : List rn_C} {nx pc : Nat} {al : List (Nat × rn_V)} {st : List rn_V} {c z : Nat} {l : List rn_S} (hf : rn_l2 f mc ms (vs, h, nx, pc, al, st, c, z) = some l) :
    ∃ a b r x, st = b :: a :: r ∧ rn_isL a = true ∧ rn_isL b = true ∧ f a b = some x ∧ l = [(vs, h, nx, pc + 1, al, x :: r, c, z)] := by
  unfold rn_l2 at hf
  dsimp only at hf
  rcases st with _ | ⟨b, _ | ⟨a, r⟩⟩
  · cases hf
  · cases hf
  · dsimp only at hf
    cases h2 : (rn_isL a && rn_isL b) with
    | false => rw [h2] at hf; cases hf
    | true =>
      rw [h2, cond_true] at hf
      rw [Bool.and_eq_true] at h2
      cases h3 : f a b with
      | none => rw [h3] at hf; cases hf
      | some x => rw [h3] at hf; cases hf; exact ⟨a, b, r, x, rfl, h2.1, h2.2, h3, rfl⟩
/-- the order of two longs -/
def rn_lcm (a b : rn_V) : Option rn_V := match a, b with
  | .inr (.inr (.inr (.inr (.inr (.inr w))))), .inr (.inr (.inr (.inr (.inr (.inr v))))) => match w.2, v.2 with
    | [], [] => cond (decide (-9223372036854775808 ≤ w.1) && decide (w.1 < 9223372036854775808) && decide (-9223372036854775808 ≤ v.1) && decide (v.1 < 9223372036854775808)) (some (cond (decide (v.1 < w.1)) (.inl (1, 1)) (cond (decide (w.1 = v.1)) (.inl (0, 0)) (.inl (-1, -1))))) (some (.inl (-1, 1)))
    | _, _ => some (.inl (-1, 1))
  | _, _ => some (.inl (-1, 1))
theorem rn_cmp_any {E : rn_E} {G : rn_G} (x y : Int64) : rn_g E G (.inl (-1, 1)) (.int (lg_cmp x y)) := by
  refine ⟨_, rfl, ?_⟩
  unfold lg_cmp
  by_cases h1 : x > y
  · rw [if_pos h1]; exact ⟨by decide, by decide⟩
  · rw [if_neg h1]
    by_cases h2 : x = y
    · rw [if_pos h2]; exact ⟨by decide, by decide⟩
    · rw [if_neg h2]; exact ⟨by decide, by decide⟩
theorem rn_ofI64 {z : Int} (h1 : -9223372036854775808 ≤ z) (h2 : z < 9223372036854775808) : (Int64.ofInt z).toInt = z := by
  have e : Int64.size = 18446744073709551616 := rfl
  rw [Int64.toInt_ofInt, e, Int.bmod_eq_of_le (by omega) (by omega)]
theorem rn_lcm_ok {E : rn_E} {G : rn_G} {a b r : rn_V} {x y : Int64} (ha : rn_g E G a (.long x)) (hb : rn_g E G b (.long y)) (h : rn_lcm a b = some r) : rn_g E G r (.int (lg_cmp x y)) := by
  unfold rn_lcm at h
  split at h
  · rename_i w v
    split at h
    · rename_i e1 e2
      cases hc : (decide (-9223372036854775808 ≤ w.1) && decide (w.1 < 9223372036854775808) && decide (-9223372036854775808 ≤ v.1) && decide (v.1 < 9223372036854775808)) with
      | false => rw [hc] at h; cases h; exact rn_cmp_any x y
      | true =>
        rw [hc] at h
        cases h
        simp only [Bool.and_eq_true, decide_eq_true_eq] at hc
        obtain ⟨⟨⟨c1, c2⟩, c3⟩, c4⟩ := hc
        obtain ⟨x', h1, h2⟩ := ha
        obtain ⟨y', h3, h4⟩ := hb
        rw [e1] at h1
        rw [e2] at h3
        cases h1; cases h3; cases h2; cases h4
        rw [Int64.add_zero, Int64.add_zero]
        have hlt : (Int64.ofInt w.1 > Int64.ofInt v.1) ↔ v.1 < w.1 := by
          rw [gt_iff_lt, Int64.lt_iff_toInt_lt, rn_ofI64 c1 c2, rn_ofI64 c3 c4]
        have heq : (Int64.ofInt w.1 = Int64.ofInt v.1) ↔ w.1 = v.1 := by
          rw [← Int64.toInt_inj, rn_ofI64 c1 c2, rn_ofI64 c3 c4]
        unfold lg_cmp
        by_cases h1 : v.1 < w.1
        · rw [if_pos (hlt.mpr h1), decide_eq_true h1]
          exact ⟨_, rfl, by decide, by decide⟩
        · rw [if_neg (fun z => h1 (hlt.mp z)), decide_eq_false h1]
          by_cases h2 : w.1 = v.1
          · rw [if_pos (heq.mpr h2), decide_eq_true h2]
            exact ⟨_, rfl, by decide, by decide⟩
          · rw [if_neg (fun z => h2 (heq.mp z)), decide_eq_false h2]
            exact ⟨_, rfl, by decide, by decide⟩
    · cases h; exact rn_cmp_any x y
  · cases h; exact rn_cmp_any x y
/-- a quotient of longs, of which only that the divisor isn't 0 is known -/
def rn_ldv (_ b : rn_V) : Option rn_V := match b with
  | .inr (.inr (.inr (.inl k))) => cond (Nat.beq k 5) (some rn_al) none
  | .inr (.inr (.inr (.inr (.inr (.inr w))))) => match w.2 with
    | [] => cond (decide (Int64.ofInt w.1 = 0)) none (some rn_al)
    | _ => none
  | _ => none
theorem rn_ldv_ok {E : rn_E} {G : rn_G} {a b r : rn_V} {y : Int64} (hb : rn_g E G b (.long y)) (h : rn_ldv a b = some r) : ¬ y = 0 ∧ r = rn_al := by
  unfold rn_ldv at h
  split at h
  · rename_i k
    cases hk : Nat.beq k 5 with
    | false => rw [hk] at h; cases h
    | true =>
      rw [hk] at h
      cases h
      have e : k = 5 := Nat.eq_of_beq_eq_true hk
      subst e
      rcases hb with ⟨q, -⟩ | ⟨q, -⟩ | ⟨q, -⟩ | ⟨q, -⟩ | ⟨q, -⟩ | ⟨-, y', q, h0⟩
      · cases q
      · cases q
      · cases q
      · cases q
      · cases q
      · cases q; exact ⟨h0, rfl⟩
  · rename_i w
    split at h
    · rename_i hw
      cases hd : decide (Int64.ofInt w.1 = 0) with
      | true => rw [hd] at h; cases h
      | false =>
        rw [hd] at h
        cases h
        have hd := of_decide_eq_false hd
        obtain ⟨y', e1, e2⟩ := hb
        rw [hw] at e1
        cases e1
        cases e2
        refine ⟨fun z => hd ?_, rfl⟩
        rw [Int64.add_zero] at z
        exact z
    · cases h
  · cases h
theorem rn_ladd (hd : decode cc pc = .ok (.ladd, 1)) : rn_SS own cc nL hh pc (rn_l2 (fun a b => some (rn_lad a b))) := by
  rintro ⟨p, l, e, R, s, m, args, below, meth, c, D, cA, N0, E, G0, Q⟩ d mc ms ⟨vs, h, nx, pc0, al, st, c0, z0⟩ lS hF hpc hf hk
  cases hpc
  obtain ⟨a, b, r, q, rfl, h1, h2, h3, rfl⟩ := rn_l2_is hf
  obtain ⟨hx, hb, -⟩ := hF
  intro G ws H locs ls stk hR hL hs
  obtain ⟨v, r1, rfl, g4, g5⟩ := rn_gs.pop hs
  obtain ⟨w, r2, rfl, g6, g7⟩ := rn_gs.pop g5
  obtain ⟨y, rfl⟩ := rn_g.long g4 h2
  obtain ⟨x, rfl⟩ := rn_g.long g6 h1
  cases h3
  exact lv_ladd hx hb hd (hk _ List.mem_cons_self G ws H locs ls _ hR hL ⟨rn_lad_ok g6 g4, g7⟩)
theorem rn_lsub (hd : decode cc pc = .ok (.lsub, 1)) : rn_SS own cc nL hh pc (rn_l2 (fun a b => some (rn_lad a (rn_lng b)))) := by
  rintro ⟨p, l, e, R, s, m, args, below, meth, c, D, cA, N0, E, G0, Q⟩ d mc ms ⟨vs, h, nx, pc0, al, st, c0, z0⟩ lS hF hpc hf hk
  cases hpc
  obtain ⟨a, b, r, q, rfl, h1, h2, h3, rfl⟩ := rn_l2_is hf
  obtain ⟨hx, hb, -⟩ := hF
  intro G ws H locs ls stk hR hL hs
  obtain ⟨v, r1, rfl, g4, g5⟩ := rn_gs.pop hs
  obtain ⟨w, r2, rfl, g6, g7⟩ := rn_gs.pop g5
  obtain ⟨y, rfl⟩ := rn_g.long g4 h2
  obtain ⟨x, rfl⟩ := rn_g.long g6 h1
  cases h3
  exact lv_lsub hx hb hd (hk _ List.mem_cons_self G ws H locs ls _ hR hL ⟨(by rw [Int64.sub_eq_add_neg]; exact rn_lad_ok g6 (rn_lng_ok g4)), g7⟩)
theorem rn_lcmp (hd : decode cc pc = .ok (.lcmp, 1)) : rn_SS own cc nL hh pc (rn_l2 rn_lcm) := by
  rintro ⟨p, l, e, R, s, m, args, below, meth, c, D, cA, N0, E, G0, Q⟩ d mc ms ⟨vs, h, nx, pc0, al, st, c0, z0⟩ lS hF hpc hf hk
  cases hpc
  obtain ⟨a, b, r, q, rfl, h1, h2, h3, rfl⟩ := rn_l2_is hf
  obtain ⟨hx, hb, -⟩ := hF
  intro G ws H locs ls stk hR hL hs
  obtain ⟨v, r1, rfl, g4, g5⟩ := rn_gs.pop hs
  obtain ⟨w, r2, rfl, g6, g7⟩ := rn_gs.pop g5
  obtain ⟨y, rfl⟩ := rn_g.long g4 h2
  obtain ⟨x, rfl⟩ := rn_g.long g6 h1
  exact W.lcmp hx hb hd (hk _ List.mem_cons_self G ws H locs ls _ hR hL ⟨rn_lcm_ok g6 g4 h3, g7⟩)
theorem rn_ldiv (hd : decode cc pc = .ok (.ldiv, 1)) : rn_SS own cc nL hh pc (rn_l2 rn_ldv) := by
  rintro ⟨p, l, e, R, s, m, args, below, meth, c, D, cA, N0, E, G0, Q⟩ d mc ms ⟨vs, h, nx, pc0, al, st, c0, z0⟩ lS hF hpc hf hk
  cases hpc
  obtain ⟨a, b, r, q, rfl, h1, h2, h3, rfl⟩ := rn_l2_is hf
  obtain ⟨hx, hb, -⟩ := hF
  intro G ws H locs ls stk hR hL hs
  obtain ⟨v, r1, rfl, g4, g5⟩ := rn_gs.pop hs
  obtain ⟨w, r2, rfl, g6, g7⟩ := rn_gs.pop g5
  obtain ⟨y, rfl⟩ := rn_g.long g4 h2
  obtain ⟨x, rfl⟩ := rn_g.long g6 h1
  obtain ⟨h0, rfl⟩ := rn_ldv_ok g4 h3
  exact lv_ldiv hx hb hd h0 (hk _ List.mem_cons_self G ws H locs ls _ hR hL ⟨rn_al_ok _, g7⟩)
/-- one value off, one on -/
def rn_u1 (ok : rn_V → Bool) (f : List (List Nat) → rn_V → Option rn_V) (n : Nat) : Nat → Nat → rn_S → Option (List rn_S) := fun _ _ (vs, h, nx, pc, al, st, c, z) => match st with
  | a :: r => cond (ok a) (match f vs a with
    | none => none
    | some x => some [(vs, h, nx, pc + n, al, x :: r, c, z)]) none
  | _ => none
theorem rn_u1_is {ok : rn_V → Bool} {f : List (List Nat) → rn_V → Option rn_V} {n mc ms : Nat} {vs : List (List Nat)} {h : List rn_C} {nx pc : Nat} {al : List (Nat × rn_V)} {st : List rn_V} {c z : Nat} {l : List rn_S} (hf : rn_u1 ok f n mc ms (vs, h, nx, pc, al, st, c, z) = some l) :
    ∃ a r x, st = a :: r ∧ ok a = true ∧ f vs a = some x ∧ l = [(vs, h, nx, pc + n, al, x :: r, c, z)] := by
  unfold rn_u1 at hf
  dsimp only at hf
  rcases st with _ | ⟨a, r⟩
  · cases hf
  · dsimp only at hf
    cases h2 : ok a with
    | false => rw [h2] at hf; cases hf
    | true =>
      rw [h2, cond_true] at hf
      cases h3 : f vs a with
      | none => rw [h3] at hf; cases hf
      | some x => rw [h3] at hf; cases hf; exact ⟨a, r, x, rfl, h2, h3, rfl⟩
def rn_i2l (vs : List (List Nat)) (a : rn_V) : Option rn_V := match a with
  | .inr (.inr (.inr (.inr (.inr (.inl j))))) => some (rn_lin 0 [4 * j + 2])
  | a => match rn_hull vs a with
    | none => none
    | some r => cond (decide (r.1 = r.2)) (some (rn_lin r.1 [])) (cond (decide (0 < r.1)) (some (.inr (.inr (.inr (.inl 5))))) (some rn_al))
theorem rn_i2l_ok {E : rn_E} {G : rn_G} {vs : List (List Nat)} (hv : rn_okV E vs) {a r : rn_V} {x : Int32} (ha : rn_g E G a (.int x)) (h : rn_i2l vs a = some r) : rn_g E G r (.long x.toInt64) := by
  unfold rn_i2l at h
  split at h
  · rename_i j
    cases h
    obtain ⟨y, h1, h2⟩ := ha
    cases h2
    refine ⟨x.toInt64 + 0, rn_sum_cons ?_ rfl, ?_⟩
    · unfold rn_tm
      rw [if_neg (by omega), if_neg (by omega), if_pos (by omega), show (4 * j + 2) / 4 = j by omega, h1]
      rfl
    · show Value.long _ = Value.long (Int64.ofInt 0 + (x.toInt64 + 0))
      rw [Int64.add_zero, show Int64.ofInt 0 = 0 from rfl, Int64.zero_add]
  · cases h1 : rn_hull vs a with
    | none => rw [h1] at h; cases h
    | some q =>
      rw [h1] at h
      dsimp only at h
      obtain ⟨x', e, a1, a2⟩ := rn_hull_ok hv h1 ha
      cases e
      cases h2 : decide (q.1 = q.2) with
      | true =>
        rw [h2] at h; cases h
        have h2 := of_decide_eq_true h2
        refine ⟨0, rfl, ?_⟩
        show Value.long _ = Value.long (Int64.ofInt q.1 + 0)
        rw [Int64.add_zero, show q.1 = x.toInt by omega, Int64.ofInt_int32ToInt]
      | false =>
        rw [h2] at h
        dsimp only [cond] at h
        cases h3 : decide (0 < q.1) with
        | false => rw [h3] at h; cases h; exact rn_al_ok _
        | true =>
          rw [h3] at h; cases h
          have h3 := of_decide_eq_true h3
          refine Or.inr (Or.inr (Or.inr (Or.inr (Or.inr ⟨rfl, _, rfl, fun z => ?_⟩))))
          have h9 := congrArg Int64.toInt z
          rw [Int32.toInt_toInt64] at h9
          have h8 : (0 : Int64).toInt = 0 := rfl
          omega
theorem rn_i2ll (hd : decode cc pc = .ok (.i2l, 1)) : rn_SS own cc nL hh pc (rn_u1 rn_isI rn_i2l 1) := by
  rintro ⟨p, l, e, R, s, m, args, below, meth, c, D, cA, N0, E, G0, Q⟩ d mc ms ⟨vs, h, nx, pc0, al, st, c0, z0⟩ lS hF hpc hf hk
  cases hpc
  obtain ⟨a, r, q, rfl, h1, h2, rfl⟩ := rn_u1_is hf
  obtain ⟨hx, hb, -⟩ := hF
  intro G ws H locs ls stk hR hL hs
  obtain ⟨v, r1, rfl, g4, g5⟩ := rn_gs.pop hs
  obtain ⟨x, rfl⟩ := rn_g.int g4 h1
  exact lv_i2l hx hb hd rfl (hk _ List.mem_cons_self G ws H locs ls _ hR hL ⟨rn_i2l_ok hR.2.1 g4 h2, g5⟩)
def rn_l2i (_ : List (List Nat)) (a : rn_V) : Option rn_V := match a with
  | .inr (.inr (.inr (.inr (.inr (.inr w))))) => match w.2 with
    | [] => some (rn_rg (w.1, w.1))
    | _ => some rn_any
  | _ => some rn_any
theorem rn_l2i_ok {E : rn_E} {G : rn_G} {vs : List (List Nat)} {a r : rn_V} {x : Int64} (ha : rn_g E G a (.long x)) (h : rn_l2i vs a = some r) : rn_g E G r (.int x.toInt32) := by
  unfold rn_l2i at h
  split at h
  · split at h
    · rename_i w e1
      cases h
      obtain ⟨y, h1, h2⟩ := ha
      rw [e1] at h1
      cases h1; cases h2
      refine rn_rg_ok fun hf => ?_
      obtain ⟨f1, f2⟩ := rn_fit_ok hf
      dsimp only at f1 f2 ⊢
      rw [Int64.add_zero, Int64.toInt32_ofInt, ri_ofI f1 (by omega)]
      exact ⟨Int.le_refl _, Int.le_refl _⟩
    · cases h; exact rn_any_ok _
  · cases h; exact rn_any_ok _
theorem rn_l2ii (hd : decode cc pc = .ok (.l2i, 1)) : rn_SS own cc nL hh pc (rn_u1 rn_isL rn_l2i 1) := by
  rintro ⟨p, l, e, R, s, m, args, below, meth, c, D, cA, N0, E, G0, Q⟩ d mc ms ⟨vs, h, nx, pc0, al, st, c0, z0⟩ lS hF hpc hf hk
  cases hpc
  obtain ⟨a, r, q, rfl, h1, h2, rfl⟩ := rn_u1_is hf
  obtain ⟨hx, hb, -⟩ := hF
  intro G ws H locs ls stk hR hL hs
  obtain ⟨v, r1, rfl, g4, g5⟩ := rn_gs.pop hs
  obtain ⟨x, rfl⟩ := rn_g.long g4 h1
  exact lv_l2i hx hb hd rfl (hk _ List.mem_cons_self G ws H locs ls _ hR hL ⟨rn_l2i_ok g4 h2, g5⟩)
theorem rn_lneg (hd : decode cc pc = .ok (.lneg, 1)) : rn_SS own cc nL hh pc (rn_u1 rn_isL (fun _ a => some (rn_lng a)) 1) := by
  rintro ⟨p, l, e, R, s, m, args, below, meth, c, D, cA, N0, E, G0, Q⟩ d mc ms ⟨vs, h, nx, pc0, al, st, c0, z0⟩ lS hF hpc hf hk
  cases hpc
  obtain ⟨a, r, q, rfl, h1, h2, rfl⟩ := rn_u1_is hf
  obtain ⟨hx, hb, -⟩ := hF
  intro G ws H locs ls stk hR hL hs
  obtain ⟨v, r1, rfl, g4, g5⟩ := rn_gs.pop hs
  obtain ⟨x, rfl⟩ := rn_g.long g4 h1
  cases h2
  exact lv_lneg hx hb hd (hk _ List.mem_cons_self G ws H locs ls _ hR hL ⟨rn_lng_ok g4, g5⟩)
def rn_i2c (_ : List (List Nat)) (a : rn_V) : Option rn_V := match a with
  | .inl r => cond (decide (r.1 = r.2) && decide (0 ≤ r.1) && decide (r.1 < 65536)) (some a) none
  | _ => none
theorem rn_c16 (x : Int32) (h0 : 0 ≤ x.toInt) (h1 : x.toInt < 65536) : (x.toUInt32 % 65536).toInt32 = x := by
  obtain ⟨k, hk, rfl⟩ : ∃ k : Nat, k < 65536 ∧ x = nI k := by
    refine ⟨x.toInt.toNat, by omega, ?_⟩
    rw [ri_eq, nI_toInt (by omega)]
    omega
  have h := pk_char (nI k)
  rw [h, pk_tn (by omega), Nat.mod_eq_of_lt hk]
theorem rn_i2cc (hd : decode cc pc = .ok (.i2c, 1)) : rn_SS own cc nL hh pc (rn_u1 rn_isI rn_i2c 1) := by
  rintro ⟨p, l, e, R, s, m, args, below, meth, c, D, cA, N0, E, G0, Q⟩ d mc ms ⟨vs, h, nx, pc0, al, st, c0, z0⟩ lS hF hpc hf hk
  cases hpc
  obtain ⟨a, r, q, rfl, h1, h2, rfl⟩ := rn_u1_is hf
  obtain ⟨hx, hb, -⟩ := hF
  intro G ws H locs ls stk hR hL hs
  obtain ⟨v, r1, rfl, g4, g5⟩ := rn_gs.pop hs
  obtain ⟨x, rfl⟩ := rn_g.int g4 h1
  unfold rn_i2c at h2
  split at h2
  · rename_i r0
    cases hc : (decide (r0.1 = r0.2) && decide (0 ≤ r0.1) && decide (r0.1 < 65536)) with
    | false => rw [hc] at h2; cases h2
    | true =>
      rw [hc] at h2
      cases h2
      simp only [Bool.and_eq_true, decide_eq_true_eq] at hc
      obtain ⟨x', e, a1, a2⟩ := id g4
      cases e
      exact lv_i2c hx hb hd (rn_c16 x (by omega) (by omega)) (hk _ List.mem_cons_self G ws H locs ls _ hR hL ⟨g4, g5⟩)
  · cases h2
/-! the stack -/
def rn_du : Nat → Nat → rn_S → Option (List rn_S) := fun _ _ (vs, h, nx, pc, al, st, c, z) => match st with
  | a :: r => cond (Nat.beq (rn_cat a) 1) (some [(vs, h, nx, pc + 1, al, a :: a :: r, c, z)]) none
  | _ => none
def rn_po : Nat → Nat → rn_S → Option (List rn_S) := fun _ _ (vs, h, nx, pc, al, st, c, z) => match st with
  | a :: r => cond (Nat.beq (rn_cat a) 1) (some [(vs, h, nx, pc + 1, al, r, c, z)]) none
  | _ => none
def rn_dx : Nat → Nat → rn_S → Option (List rn_S) := fun _ _ (vs, h, nx, pc, al, st, c, z) => match st with
  | a :: b :: r => cond (Nat.beq (rn_cat a) 1 && Nat.beq (rn_cat b) 1) (some [(vs, h, nx, pc + 1, al, a :: b :: a :: r, c, z)]) none
  | _ => none
theorem rn_dup (hd : decode cc pc = .ok (.dup, 1)) : rn_SS own cc nL hh pc rn_du := by
  rintro ⟨p, l, e, R, s, m, args, below, meth, c, D, cA, N0, E, G0, Q⟩ d mc ms ⟨vs, h, nx, pc0, al, st, c0, z0⟩ lS hF hpc hf hk
  cases hpc
  unfold rn_du at hf
  dsimp only at hf
  rcases st with _ | ⟨a, r⟩
  · cases hf
  · dsimp only at hf
    cases h2 : Nat.beq (rn_cat a) 1 with
    | false => rw [h2] at hf; cases hf
    | true =>
      rw [h2] at hf
      cases hf
      have h2 := Nat.eq_of_beq_eq_true h2
      obtain ⟨hx, hb, -⟩ := hF
      intro G ws H locs ls stk hR hL hs
      obtain ⟨v, r1, rfl, g4, g5⟩ := rn_gs.pop hs
      exact lv_dup hx hb hd (g4.cat.trans h2) (hk _ List.mem_cons_self G ws H locs ls _ hR hL ⟨g4, g4, g5⟩)
theorem rn_pop (hd : decode cc pc = .ok (.pop, 1)) : rn_SS own cc nL hh pc rn_po := by
  rintro ⟨p, l, e, R, s, m, args, below, meth, c, D, cA, N0, E, G0, Q⟩ d mc ms ⟨vs, h, nx, pc0, al, st, c0, z0⟩ lS hF hpc hf hk
  cases hpc
  unfold rn_po at hf
  dsimp only at hf
  rcases st with _ | ⟨a, r⟩
  · cases hf
  · dsimp only at hf
    cases h2 : Nat.beq (rn_cat a) 1 with
    | false => rw [h2] at hf; cases hf
    | true =>
      rw [h2] at hf
      cases hf
      have h2 := Nat.eq_of_beq_eq_true h2
      obtain ⟨hx, hb, -⟩ := hF
      intro G ws H locs ls stk hR hL hs
      obtain ⟨v, r1, rfl, g4, g5⟩ := rn_gs.pop hs
      exact lv_pop hx hb hd (g4.cat.trans h2) (hk _ List.mem_cons_self G ws H locs ls _ hR hL g5)
theorem rn_dupx1 (hd : decode cc pc = .ok (.dup_x1, 1)) : rn_SS own cc nL hh pc rn_dx := by
  rintro ⟨p, l, e, R, s, m, args, below, meth, c, D, cA, N0, E, G0, Q⟩ d mc ms ⟨vs, h, nx, pc0, al, st, c0, z0⟩ lS hF hpc hf hk
  cases hpc
  unfold rn_dx at hf
  dsimp only at hf
  rcases st with _ | ⟨a, _ | ⟨b, r⟩⟩
  · cases hf
  · cases hf
  · dsimp only at hf
    cases h2 : (Nat.beq (rn_cat a) 1 && Nat.beq (rn_cat b) 1) with
    | false => rw [h2] at hf; cases hf
    | true =>
      rw [h2] at hf
      cases hf
      rw [Bool.and_eq_true] at h2
      obtain ⟨hx, hb, -⟩ := hF
      intro G ws H locs ls stk hR hL hs
      obtain ⟨v, r1, rfl, g4, g5⟩ := rn_gs.pop hs
      obtain ⟨w, r2, rfl, g6, g7⟩ := rn_gs.pop g5
      exact lv_dup_x1 hx hb hd (g4.cat.trans (Nat.eq_of_beq_eq_true h2.1)) (g6.cat.trans (Nat.eq_of_beq_eq_true h2.2)) (hk _ List.mem_cons_self G ws H locs ls _ hR hL ⟨g4, g6, g4, g7⟩)
def rn_go (t : Nat) : Nat → Nat → rn_S → Option (List rn_S) := fun _ _ (vs, h, nx, _, al, st, c, z) => some [(vs, h, nx, t, al, st, c, z)]
theorem rn_goto {o : Int} {t : Nat} (hd : decode cc pc = .ok (.goto o, 3)) (ht : (pc : Int) + o = (t : Int)) : rn_SS own cc nL hh pc (rn_go t) := by
  rintro ⟨p, l, e, R, s, m, args, below, meth, c, D, cA, N0, E, G0, Q⟩ d mc ms ⟨vs, h, nx, pc0, al, st, c0, z0⟩ lS hF hpc hf hk
  cases hpc
  cases hf
  obtain ⟨hx, hb, -⟩ := hF
  intro G ws H locs ls stk hR hL hs
  exact lv_goto hx hb hd ht (hk _ List.mem_cons_self G ws H locs ls _ hR hL hs)
end RNE
