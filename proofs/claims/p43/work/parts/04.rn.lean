section RNC
theorem ri_rng (x : Int32) : -2147483648 ≤ x.toInt ∧ x.toInt < 2147483648 := by
  have h1 := Int32.le_toInt x
  have h2 := Int32.toInt_lt x
  omega
theorem ri_bmod {z : Int} (h1 : -2147483648 ≤ z) (h2 : z < 2147483648) : z.bmod (2 ^ 32) = z := by
  rw [Int.bmod_eq_of_le (by omega) (by omega)]
theorem ri_add {x y : Int32} (h1 : -2147483648 ≤ x.toInt + y.toInt) (h2 : x.toInt + y.toInt < 2147483648) : (x + y).toInt = x.toInt + y.toInt := by
  rw [Int32.toInt_add, ri_bmod h1 h2]
theorem ri_sub {x y : Int32} (h1 : -2147483648 ≤ x.toInt - y.toInt) (h2 : x.toInt - y.toInt < 2147483648) : (x - y).toInt = x.toInt - y.toInt := by
  rw [Int32.toInt_sub, ri_bmod h1 h2]
theorem ri_mul {x y : Int32} (h1 : -2147483648 ≤ x.toInt * y.toInt) (h2 : x.toInt * y.toInt < 2147483648) : (x * y).toInt = x.toInt * y.toInt := by
  rw [Int32.toInt_mul, ri_bmod h1 h2]
theorem ri_ofI {z : Int} (h1 : -2147483648 ≤ z) (h2 : z < 2147483648) : (Int32.ofInt z).toInt = z := by
  rw [Int32.toInt_ofInt, ri_bmod h1 h2]
theorem ri_lt (a b : Int32) : a < b ↔ a.toInt < b.toInt := Int32.lt_iff_toInt_lt
theorem ri_le (a b : Int32) : a ≤ b ↔ a.toInt ≤ b.toInt := Int32.le_iff_toInt_le
theorem ri_eq (a b : Int32) : a = b ↔ a.toInt = b.toInt := Int32.toInt_inj.symm
/-- go on with each state -/
def rn_all (k : rn_S → rn_R) : List rn_S → rn_R
  | [] => some []
  | S :: l => match l with
    | [] => k S
    | _ :: _ => match k S with
      | none => none
      | some a => match rn_all k l with
        | none => none
        | some b => some (a ++ b)
theorem rn_all_mem {k : rn_S → rn_R} : ∀ {l : List rn_S} {outs : List rn_O}, rn_all k l = some outs → ∀ S ∈ l, ∃ o', k S = some o' ∧ ∀ o ∈ o', o ∈ outs
  | [], _, _, S, hS => by cases hS
  | [S0], outs, h, S, hS => by
    have e : S = S0 := by simpa using hS
    subst e
    exact ⟨outs, h, fun o ho => ho⟩
  | S0 :: S1 :: l, outs, h, S, hS => by
    unfold rn_all at h
    dsimp only at h
    cases h1 : k S0 with
    | none => rw [h1] at h; cases h
    | some a =>
      cases h2 : rn_all k (S1 :: l) with
      | none => rw [h1, h2] at h; cases h
      | some b =>
        rw [h1, h2] at h
        cases h
        rcases List.mem_cons.mp hS with e | e
        · subst e
          exact ⟨a, h1, fun o ho => List.mem_append_left _ ho⟩
        · obtain ⟨o', h3, h4⟩ := rn_all_mem h2 S e
          exact ⟨o', h3, fun o ho => List.mem_append_right _ (h4 o ho)⟩
/-- an instruction that calls nothing -/
def rn_st (f : Nat → Nat → rn_S → Option (List rn_S)) : rn_T := fun mc ms k _ S => match f mc ms S with
  | none => none
  | some l => rn_all k l
def rn_SS (own : String) (cc : ByteArray) (nL : Nat) (hh : rn_H) (pc : Nat) (f : Nat → Nat → rn_S → Option (List rn_S)) : Prop :=
  ∀ (B : rn_B) (d mc ms : Nat) (S : rn_S) (l : List rn_S), rn_Fr own cc nL hh d mc ms B → S.2.2.2.1 = pc → f mc ms S = some l → (∀ S' ∈ l, rn_W nL B S') → rn_W nL B S
theorem rn_st_ok {M : Nat → rn_D} {own : String} {cc : ByteArray} {nL : Nat} {hh : rn_H} {pc : Nat} {f : Nat → Nat → rn_S → Option (List rn_S)} (h : rn_SS own cc nL hh pc f) : rn_TS M own cc nL hh pc (rn_st f) := by
  intro B d mc ms k call S outs hF hpc hr h1 _ _
  unfold rn_st at hr
  cases hf : f mc ms S with
  | none => rw [hf] at hr; cases hr
  | some l =>
    rw [hf] at hr
    exact h B d mc ms S l hF hpc hf fun S' hS => by
      obtain ⟨o', h3, h4⟩ := rn_all_mem hr S' hS
      exact h1 S' o' h3 h4
/-- an instruction that no run comes to -/
def rn_no : rn_T := fun _ _ _ _ _ => none
theorem rn_no_ok {M : Nat → rn_D} {own : String} {cc : ByteArray} {nL : Nat} {hh : rn_H} {pc : Nat} : rn_TS M own cc nL hh pc rn_no := fun _ _ _ _ _ _ _ _ _ _ hr => by cases hr
/-! one value pushed -/
def rn_pu (v : rn_V) (n : Nat) : Nat → Nat → rn_S → Option (List rn_S) := fun _ _ (vs, h, nx, pc, al, st, c, z) => some [(vs, h, nx, pc + n, al, v :: st, c, z)]
section
variable {own : String} {cc : ByteArray} {nL : Nat} {hh : rn_H} {pc : Nat}
theorem rn_iconst {n v : Int} (hd : decode cc pc = .ok (.iconst n, 1)) (hv : (Int32.ofInt n).toInt = v) : rn_SS own cc nL hh pc (rn_pu (.inl (v, v)) 1) := by
  rintro ⟨p, l, e, R, s, m, args, below, meth, c, D, cA, N0, E, G0, Q⟩ d mc ms ⟨vs, h, nx, pc0, al, st, c0, z0⟩ lS hF hpc hf hk
  cases hpc; cases hf
  obtain ⟨hx, hb, -⟩ := hF
  intro G ws H locs ls stk hR hL hs
  exact lv_iconst hx hb hd rfl (hk _ List.mem_cons_self G ws H locs ls _ hR hL ⟨⟨_, rfl, by rw [hv]; exact Int.le_refl _, by rw [hv]; exact Int.le_refl _⟩, hs⟩)
theorem rn_bipush {n v : Int} (hd : decode cc pc = .ok (.bipush n, 2)) (hv : (Int8.ofInt n).toInt32.toInt = v) : rn_SS own cc nL hh pc (rn_pu (.inl (v, v)) 2) := by
  rintro ⟨p, l, e, R, s, m, args, below, meth, c, D, cA, N0, E, G0, Q⟩ d mc ms ⟨vs, h, nx, pc0, al, st, c0, z0⟩ lS hF hpc hf hk
  cases hpc; cases hf
  obtain ⟨hx, hb, -⟩ := hF
  intro G ws H locs ls stk hR hL hs
  exact lv_bipush hx hb hd rfl (hk _ List.mem_cons_self G ws H locs ls _ hR hL ⟨⟨_, rfl, by rw [hv]; exact Int.le_refl _, by rw [hv]; exact Int.le_refl _⟩, hs⟩)
theorem rn_sipush {n v : Int} (hd : decode cc pc = .ok (.sipush n, 3)) (hv : (Int16.ofInt n).toInt32.toInt = v) : rn_SS own cc nL hh pc (rn_pu (.inl (v, v)) 3) := by
  rintro ⟨p, l, e, R, s, m, args, below, meth, c, D, cA, N0, E, G0, Q⟩ d mc ms ⟨vs, h, nx, pc0, al, st, c0, z0⟩ lS hF hpc hf hk
  cases hpc; cases hf
  obtain ⟨hx, hb, -⟩ := hF
  intro G ws H locs ls stk hR hL hs
  exact lv_sipush hx hb hd rfl (hk _ List.mem_cons_self G ws H locs ls _ hR hL ⟨⟨_, rfl, by rw [hv]; exact Int.le_refl _, by rw [hv]; exact Int.le_refl _⟩, hs⟩)
theorem rn_lconst {n : Fin 2} {v : Int} (hd : decode cc pc = .ok (.lconst n, 1)) (hv : Int64.ofInt v = Int64.ofNat (n : Nat)) : rn_SS own cc nL hh pc (rn_pu (.inr (.inr (.inr (.inr (.inr (.inr (v, []))))))) 1) := by
  rintro ⟨p, l, e, R, s, m, args, below, meth, c, D, cA, N0, E, G0, Q⟩ d mc ms ⟨vs, h, nx, pc0, al, st, c0, z0⟩ lS hF hpc hf hk
  cases hpc; cases hf
  obtain ⟨hx, hb, -⟩ := hF
  intro G ws H locs ls stk hR hL hs
  exact lv_lconst hx hb hd rfl (hk _ List.mem_cons_self G ws H locs ls _ hR hL ⟨⟨0, rfl, by rw [Int64.add_zero, hv]⟩, hs⟩)
theorem rn_ldc {index : Nat} {x : Int32} {v : Int} (hd : decode cc pc = .ok (.ldc index, 2)) (hw : Cond.constant own index x ∈ rn_ALL) (hv : x.toInt = v) : rn_SS own cc nL hh pc (rn_pu (.inl (v, v)) 2) := by
  rintro ⟨p, l, e, R, s, m, args, below, meth, c, D, cA, N0, E, G0, Q⟩ d mc ms ⟨vs, h, nx, pc0, al, st, c0, z0⟩ lS hF hpc hf hk
  cases hpc; cases hf
  obtain ⟨hx, hb, -, ho, hts, -⟩ := hF
  intro G ws H locs ls stk hR hL hs
  exact lv_ldc hx hb ho (hts _ hw) hd (hk _ List.mem_cons_self G ws H locs ls _ hR hL ⟨⟨_, rfl, by rw [hv]; exact Int.le_refl _, by rw [hv]; exact Int.le_refl _⟩, hs⟩)
theorem rn_ldcw {index : Nat} {x : Int32} {v : Int} (hd : decode cc pc = .ok (.ldc_w index, 3)) (hw : Cond.constant own index x ∈ rn_ALL) (hv : x.toInt = v) : rn_SS own cc nL hh pc (rn_pu (.inl (v, v)) 3) := by
  rintro ⟨p, l, e, R, s, m, args, below, meth, c, D, cA, N0, E, G0, Q⟩ d mc ms ⟨vs, h, nx, pc0, al, st, c0, z0⟩ lS hF hpc hf hk
  cases hpc; cases hf
  obtain ⟨hx, hb, -, ho, hts, -⟩ := hF
  intro G ws H locs ls stk hR hL hs
  exact lv_ldcw hx hb ho (hts _ hw) hd (hk _ List.mem_cons_self G ws H locs ls _ hR hL ⟨⟨_, rfl, by rw [hv]; exact Int.le_refl _, by rw [hv]; exact Int.le_refl _⟩, hs⟩)
theorem rn_ldc2 {index : Nat} {x : Int64} {v : Int} (hd : decode cc pc = .ok (.ldc2_w index, 3)) (hw : Cond.constantLong own index x ∈ rn_ALL) (hv : Int64.ofInt v = x) : rn_SS own cc nL hh pc (rn_pu (.inr (.inr (.inr (.inr (.inr (.inr (v, []))))))) 3) := by
  rintro ⟨p, l, e, R, s, m, args, below, meth, c, D, cA, N0, E, G0, Q⟩ d mc ms ⟨vs, h, nx, pc0, al, st, c0, z0⟩ lS hF hpc hf hk
  cases hpc; cases hf
  obtain ⟨hx, hb, -, ho, hts, -⟩ := hF
  intro G ws H locs ls stk hR hL hs
  exact lv_ldc2 hx hb ho (hts _ hw) hd (hk _ List.mem_cons_self G ws H locs ls _ hR hL ⟨⟨0, rfl, by rw [Int64.add_zero, hv]⟩, hs⟩)
theorem rn_aconst (hd : decode cc pc = .ok (.aconst_null, 1)) : rn_SS own cc nL hh pc (rn_pu (.inr (.inr (.inr (.inl 0)))) 1) := by
  rintro ⟨p, l, e, R, s, m, args, below, meth, c, D, cA, N0, E, G0, Q⟩ d mc ms ⟨vs, h, nx, pc0, al, st, c0, z0⟩ lS hF hpc hf hk
  cases hpc; cases hf
  obtain ⟨hx, hb, -⟩ := hF
  intro G ws H locs ls stk hR hL hs
  exact lv_null hx hb hd (hk _ List.mem_cons_self G ws H locs ls _ hR hL ⟨Or.inl ⟨rfl, rfl⟩, hs⟩)
/-! locals -/
def rn_ld (ok : rn_V → Bool) (i n : Nat) : Nat → Nat → rn_S → Option (List rn_S) := fun _ _ (vs, h, nx, pc, al, st, c, z) => match rn_find i al with
  | none => none
  | some a => cond (ok a) (some [(vs, h, nx, pc + n, al, a :: st, c, z)]) none
theorem rn_ld_is {ok : rn_V → Bool} {i n mc ms : Nat} {vs : List (List Nat)} {h : List rn_C} {nx pc : Nat} {al : List (Nat × rn_V)} {st : List rn_V} {c z : Nat} {l : List rn_S} (hf : rn_ld ok i n mc ms (vs, h, nx, pc, al, st, c, z) = some l) : ∃ a, rn_find i al = some a ∧ ok a = true ∧ l = [(vs, h, nx, pc + n, al, a :: st, c, z)] := by
  unfold rn_ld at hf
  dsimp only at hf
  cases h1 : rn_find i al with
  | none => rw [h1] at hf; cases hf
  | some a =>
    rw [h1] at hf
    dsimp only at hf
    cases h2 : ok a with
    | false => rw [h2] at hf; cases hf
    | true => rw [h2] at hf; cases hf; exact ⟨a, rfl, h2, rfl⟩
theorem rn_L.at {E : rn_E} {G : rn_G} {ls : Array Slot} {nL : Nat} {al : List (Nat × rn_V)} (hL : rn_L E G ls nL al) {i : Nat} {a : rn_V} (h : rn_find i al = some a) : ∃ v, ls[i]? = some (.val v) ∧ rn_g E G a v := by
  obtain ⟨l, h1, h2⟩ := hL
  obtain ⟨v, h3, h4⟩ := rn_gl.at h2 h
  exact ⟨v, h1.2.2 (i, v) h3, h4⟩
theorem rn_iload_n {i : Nat} {k : Fin 4} (hd : decode cc pc = .ok (.iload_n k, 1)) (hi : (k : Nat) = i) : rn_SS own cc nL hh pc (rn_ld rn_isI i 1) := by
  rintro ⟨p, l, e, R, s, m, args, below, meth, c, D, cA, N0, E, G0, Q⟩ d mc ms ⟨vs, h, nx, pc0, al, st, c0, z0⟩ lS hF hpc hf hk
  cases hpc
  obtain ⟨a, h1, h2, rfl⟩ := rn_ld_is hf
  obtain ⟨hx, hb, -⟩ := hF
  intro G ws H locs ls stk hR hL hs
  obtain ⟨v, h3, h4⟩ := hL.at h1
  obtain ⟨y, rfl⟩ := rn_g.int h4 h2
  exact lv_iload_n hx hb hd hi h3 (hk _ List.mem_cons_self G ws H locs ls _ hR hL ⟨h4, hs⟩)
theorem rn_iload {i : Nat} (hd : decode cc pc = .ok (.iload i, 2)) : rn_SS own cc nL hh pc (rn_ld rn_isI i 2) := by
  rintro ⟨p, l, e, R, s, m, args, below, meth, c, D, cA, N0, E, G0, Q⟩ d mc ms ⟨vs, h, nx, pc0, al, st, c0, z0⟩ lS hF hpc hf hk
  cases hpc
  obtain ⟨a, h1, h2, rfl⟩ := rn_ld_is hf
  obtain ⟨hx, hb, -⟩ := hF
  intro G ws H locs ls stk hR hL hs
  obtain ⟨v, h3, h4⟩ := hL.at h1
  obtain ⟨y, rfl⟩ := rn_g.int h4 h2
  exact lv_iload hx hb hd h3 (hk _ List.mem_cons_self G ws H locs ls _ hR hL ⟨h4, hs⟩)
theorem rn_lload_n {i : Nat} {k : Fin 4} (hd : decode cc pc = .ok (.lload_n k, 1)) (hi : (k : Nat) = i) : rn_SS own cc nL hh pc (rn_ld rn_isL i 1) := by
  rintro ⟨p, l, e, R, s, m, args, below, meth, c, D, cA, N0, E, G0, Q⟩ d mc ms ⟨vs, h, nx, pc0, al, st, c0, z0⟩ lS hF hpc hf hk
  cases hpc
  obtain ⟨a, h1, h2, rfl⟩ := rn_ld_is hf
  obtain ⟨hx, hb, -⟩ := hF
  intro G ws H locs ls stk hR hL hs
  obtain ⟨v, h3, h4⟩ := hL.at h1
  obtain ⟨y, rfl⟩ := rn_g.long h4 h2
  exact lv_lload_n hx hb hd hi h3 (hk _ List.mem_cons_self G ws H locs ls _ hR hL ⟨h4, hs⟩)
theorem rn_lload {i : Nat} (hd : decode cc pc = .ok (.lload i, 2)) : rn_SS own cc nL hh pc (rn_ld rn_isL i 2) := by
  rintro ⟨p, l, e, R, s, m, args, below, meth, c, D, cA, N0, E, G0, Q⟩ d mc ms ⟨vs, h, nx, pc0, al, st, c0, z0⟩ lS hF hpc hf hk
  cases hpc
  obtain ⟨a, h1, h2, rfl⟩ := rn_ld_is hf
  obtain ⟨hx, hb, -⟩ := hF
  intro G ws H locs ls stk hR hL hs
  obtain ⟨v, h3, h4⟩ := hL.at h1
  obtain ⟨y, rfl⟩ := rn_g.long h4 h2
  exact lv_lload hx hb hd h3 (hk _ List.mem_cons_self G ws H locs ls _ hR hL ⟨h4, hs⟩)
theorem rn_aload_n {i : Nat} {k : Fin 4} (hd : decode cc pc = .ok (.aload_n k, 1)) (hi : (k : Nat) = i) : rn_SS own cc nL hh pc (rn_ld rn_isA i 1) := by
  rintro ⟨p, l, e, R, s, m, args, below, meth, c, D, cA, N0, E, G0, Q⟩ d mc ms ⟨vs, h, nx, pc0, al, st, c0, z0⟩ lS hF hpc hf hk
  cases hpc
  obtain ⟨a, h1, h2, rfl⟩ := rn_ld_is hf
  obtain ⟨hx, hb, -⟩ := hF
  intro G ws H locs ls stk hR hL hs
  obtain ⟨v, h3, h4⟩ := hL.at h1
  rcases rn_g.addr h4 h2 with rfl | ⟨y, rfl⟩
  · exact lv_aload_nN hx hb hd hi h3 (hk _ List.mem_cons_self G ws H locs ls _ hR hL ⟨h4, hs⟩)
  · exact lv_aload_n hx hb hd hi h3 (hk _ List.mem_cons_self G ws H locs ls _ hR hL ⟨h4, hs⟩)
theorem rn_aload {i : Nat} (hd : decode cc pc = .ok (.aload i, 2)) : rn_SS own cc nL hh pc (rn_ld rn_isA i 2) := by
  rintro ⟨p, l, e, R, s, m, args, below, meth, c, D, cA, N0, E, G0, Q⟩ d mc ms ⟨vs, h, nx, pc0, al, st, c0, z0⟩ lS hF hpc hf hk
  cases hpc
  obtain ⟨a, h1, h2, rfl⟩ := rn_ld_is hf
  obtain ⟨hx, hb, -⟩ := hF
  intro G ws H locs ls stk hR hL hs
  obtain ⟨v, h3, h4⟩ := hL.at h1
  rcases rn_g.addr h4 h2 with rfl | ⟨y, rfl⟩
  · exact lv_aloadN hx hb hd h3 (hk _ List.mem_cons_self G ws H locs ls _ hR hL ⟨h4, hs⟩)
  · exact lv_aload hx hb hd h3 (hk _ List.mem_cons_self G ws H locs ls _ hR hL ⟨h4, hs⟩)
/-! stores -/
def rn_so (ok : rn_V → Bool) (i n : Nat) : Nat → Nat → rn_S → Option (List rn_S) := fun _ _ (vs, h, nx, pc, al, st, c, z) => match st with
  | [] => none
  | a :: r => cond (ok a) (some [(vs, h, nx, pc + n, rn_st1 i a al, r, c, z)]) none
def rn_so2 (i n : Nat) : Nat → Nat → rn_S → Option (List rn_S) := fun _ _ (vs, h, nx, pc, al, st, c, z) => match st with
  | [] => none
  | a :: r => cond (rn_isL a) (some [(vs, h, nx, pc + n, rn_st2 i a al, r, c, z)]) none
theorem rn_so_is {ok : rn_V → Bool} {i n mc ms : Nat} {vs : List (List Nat)} {h : List rn_C} {nx pc : Nat} {al : List (Nat × rn_V)} {st : List rn_V} {c z : Nat} {l : List rn_S} (hf : rn_so ok i n mc ms (vs, h, nx, pc, al, st, c, z) = some l) : ∃ a r, st = a :: r ∧ ok a = true ∧ l = [(vs, h, nx, pc + n, rn_st1 i a al, r, c, z)] := by
  unfold rn_so at hf
  dsimp only at hf
  cases st with
  | nil => cases hf
  | cons a r =>
    dsimp only at hf
    cases h2 : ok a with
    | false => rw [h2] at hf; cases hf
    | true => rw [h2] at hf; cases hf; exact ⟨a, r, rfl, h2, rfl⟩
theorem rn_so2_is {i n mc ms : Nat} {vs : List (List Nat)} {h : List rn_C} {nx pc : Nat} {al : List (Nat × rn_V)} {st : List rn_V} {c z : Nat} {l : List rn_S} (hf : rn_so2 i n mc ms (vs, h, nx, pc, al, st, c, z) = some l) : ∃ a r, st = a :: r ∧ rn_isL a = true ∧ l = [(vs, h, nx, pc + n, rn_st2 i a al, r, c, z)] := by
  unfold rn_so2 at hf
  dsimp only at hf
  cases st with
  | nil => cases hf
  | cons a r =>
    dsimp only at hf
    cases h2 : rn_isL a with
    | false => rw [h2] at hf; cases hf
    | true => rw [h2] at hf; cases hf; exact ⟨a, r, rfl, h2, rfl⟩
theorem rn_gs.pop {E : rn_E} {G : rn_G} {a : rn_V} {as : List rn_V} {stk : List Value} (h : rn_gs E G (a :: as) stk) : ∃ v r, stk = v :: r ∧ rn_g E G a v ∧ rn_gs E G as r := by
  cases stk with
  | nil => exact h.elim
  | cons v r => exact ⟨v, r, rfl, h.1, h.2⟩
theorem rn_istore_n {i : Nat} {k : Fin 4} (hd : decode cc pc = .ok (.istore_n k, 1)) (hi : (k : Nat) = i) (hn : i < nL) : rn_SS own cc nL hh pc (rn_so rn_isI i 1) := by
  rintro ⟨p, l, e, R, s, m, args, below, meth, c, D, cA, N0, E, G0, Q⟩ d mc ms ⟨vs, h, nx, pc0, al, st, c0, z0⟩ lS hF hpc hf hk
  cases hpc
  obtain ⟨a, r, rfl, h2, rfl⟩ := rn_so_is hf
  obtain ⟨hx, hb, -⟩ := hF
  intro G ws H locs ls stk hR hL hs
  obtain ⟨v, r', rfl, h4, h5⟩ := rn_gs.pop hs
  obtain ⟨y, rfl⟩ := rn_g.int h4 h2
  obtain ⟨lv, hl1, hl2⟩ := hL
  exact lv_istore_n hx hb hd hi hl1 hn rfl fun ls' hl' => hk _ List.mem_cons_self G ws H locs ls' _ hR ⟨_, hl', rn_gl.st1 hl2 i h4⟩ h5
theorem rn_istore {i : Nat} (hd : decode cc pc = .ok (.istore i, 2)) (hn : i < nL) : rn_SS own cc nL hh pc (rn_so rn_isI i 2) := by
  rintro ⟨p, l, e, R, s, m, args, below, meth, c, D, cA, N0, E, G0, Q⟩ d mc ms ⟨vs, h, nx, pc0, al, st, c0, z0⟩ lS hF hpc hf hk
  cases hpc
  obtain ⟨a, r, rfl, h2, rfl⟩ := rn_so_is hf
  obtain ⟨hx, hb, -⟩ := hF
  intro G ws H locs ls stk hR hL hs
  obtain ⟨v, r', rfl, h4, h5⟩ := rn_gs.pop hs
  obtain ⟨y, rfl⟩ := rn_g.int h4 h2
  obtain ⟨lv, hl1, hl2⟩ := hL
  exact lv_istore hx hb hd hl1 hn rfl fun ls' hl' => hk _ List.mem_cons_self G ws H locs ls' _ hR ⟨_, hl', rn_gl.st1 hl2 i h4⟩ h5
theorem rn_lstore_n {i : Nat} {k : Fin 4} (hd : decode cc pc = .ok (.lstore_n k, 1)) (hi : (k : Nat) = i) (hn : i + 1 < nL) : rn_SS own cc nL hh pc (rn_so2 i 1) := by
  rintro ⟨p, l, e, R, s, m, args, below, meth, c, D, cA, N0, E, G0, Q⟩ d mc ms ⟨vs, h, nx, pc0, al, st, c0, z0⟩ lS hF hpc hf hk
  cases hpc
  obtain ⟨a, r, rfl, h2, rfl⟩ := rn_so2_is hf
  obtain ⟨hx, hb, -⟩ := hF
  intro G ws H locs ls stk hR hL hs
  obtain ⟨v, r', rfl, h4, h5⟩ := rn_gs.pop hs
  obtain ⟨y, rfl⟩ := rn_g.long h4 h2
  obtain ⟨lv, hl1, hl2⟩ := hL
  exact lv_lstore_n hx hb hd hi hl1 hn rfl fun ls' hl' => hk _ List.mem_cons_self G ws H locs ls' _ hR ⟨_, hl', rn_gl.st2 hl2 i h4⟩ h5
theorem rn_lstore {i : Nat} (hd : decode cc pc = .ok (.lstore i, 2)) (hn : i + 1 < nL) : rn_SS own cc nL hh pc (rn_so2 i 2) := by
  rintro ⟨p, l, e, R, s, m, args, below, meth, c, D, cA, N0, E, G0, Q⟩ d mc ms ⟨vs, h, nx, pc0, al, st, c0, z0⟩ lS hF hpc hf hk
  cases hpc
  obtain ⟨a, r, rfl, h2, rfl⟩ := rn_so2_is hf
  obtain ⟨hx, hb, -⟩ := hF
  intro G ws H locs ls stk hR hL hs
  obtain ⟨v, r', rfl, h4, h5⟩ := rn_gs.pop hs
  obtain ⟨y, rfl⟩ := rn_g.long h4 h2
  obtain ⟨lv, hl1, hl2⟩ := hL
  exact lv_lstore hx hb hd hl1 hn rfl fun ls' hl' => hk _ List.mem_cons_self G ws H locs ls' _ hR ⟨_, hl', rn_gl.st2 hl2 i h4⟩ h5
theorem rn_astore_n {i : Nat} {k : Fin 4} (hd : decode cc pc = .ok (.astore_n k, 1)) (hi : (k : Nat) = i) (hn : i < nL) : rn_SS own cc nL hh pc (rn_so rn_isA i 1) := by
  rintro ⟨p, l, e, R, s, m, args, below, meth, c, D, cA, N0, E, G0, Q⟩ d mc ms ⟨vs, h, nx, pc0, al, st, c0, z0⟩ lS hF hpc hf hk
  cases hpc
  obtain ⟨a, r, rfl, h2, rfl⟩ := rn_so_is hf
  obtain ⟨hx, hb, -⟩ := hF
  intro G ws H locs ls stk hR hL hs
  obtain ⟨v, r', rfl, h4, h5⟩ := rn_gs.pop hs
  obtain ⟨lv, hl1, hl2⟩ := hL
  rcases rn_g.addr h4 h2 with rfl | ⟨y, rfl⟩
  · exact lv_astore_nN hx hb hd hi hl1 hn rfl fun ls' hl' => hk _ List.mem_cons_self G ws H locs ls' _ hR ⟨_, hl', rn_gl.st1 hl2 i h4⟩ h5
  · exact lv_astore_n hx hb hd hi hl1 hn rfl fun ls' hl' => hk _ List.mem_cons_self G ws H locs ls' _ hR ⟨_, hl', rn_gl.st1 hl2 i h4⟩ h5
theorem rn_astore {i : Nat} (hd : decode cc pc = .ok (.astore i, 2)) (hn : i < nL) : rn_SS own cc nL hh pc (rn_so rn_isA i 2) := by
  rintro ⟨p, l, e, R, s, m, args, below, meth, c, D, cA, N0, E, G0, Q⟩ d mc ms ⟨vs, h, nx, pc0, al, st, c0, z0⟩ lS hF hpc hf hk
  cases hpc
  obtain ⟨a, r, rfl, h2, rfl⟩ := rn_so_is hf
  obtain ⟨hx, hb, -⟩ := hF
  intro G ws H locs ls stk hR hL hs
  obtain ⟨v, r', rfl, h4, h5⟩ := rn_gs.pop hs
  obtain ⟨lv, hl1, hl2⟩ := hL
  rcases rn_g.addr h4 h2 with rfl | ⟨y, rfl⟩
  · exact lv_astoreN hx hb hd hl1 hn rfl fun ls' hl' => hk _ List.mem_cons_self G ws H locs ls' _ hR ⟨_, hl', rn_gl.st1 hl2 i h4⟩ h5
  · exact lv_astore hx hb hd hl1 hn rfl fun ls' hl' => hk _ List.mem_cons_self G ws H locs ls' _ hR ⟨_, hl', rn_gl.st1 hl2 i h4⟩ h5
end
end RNC
