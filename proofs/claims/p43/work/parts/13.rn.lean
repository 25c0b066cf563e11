section RNL
/-! returns -/
def rn_re (tk : Nat) : rn_T := fun mc ms _ _ (vs, h, nx, _, _, st, c, z) => match st with
  | a :: r => match r with
    | [] => cond (rn_fk tk vs a && Nat.ble c mc && Nat.ble z ms) (some [(vs, h, nx, .inl (some a))]) none
    | _ => none
  | _ => none
def rn_rv0 : rn_T := fun mc ms _ _ (vs, h, nx, _, _, st, c, z) => match st with
  | [] => cond (Nat.ble c mc && Nat.ble z ms) (some [(vs, h, nx, .inl none)]) none
  | _ => none
theorem rn_ret {M : Nat → rn_D} {own : String} {cc : ByteArray} {nL : Nat} {hh : rn_H} {pc tk : Nat} {i : Instr} {ty : FieldType} (hd : decode cc pc = .ok (i, 1)) (hrt : hh.2.2 = some ty) (htk : rn_tk tk ty) (hi : (tk = 1 ∧ i = .lreturn) ∨ (tk = 3 ∧ i = .areturn) ∨ ((tk = 0 ∨ tk = 2) ∧ i = .ireturn)) : rn_TS M own cc nL hh pc (rn_re tk) := by
  rintro ⟨p, l, e, R, s, m, args, below, meth, c, D, cA, N0, E, G0, Q⟩ d mc ms k call ⟨vs, h, nx, pc0, al, st, c0, z0⟩ outs hF hpc hr _ _ h3
  cases hpc
  unfold rn_re at hr
  dsimp only at hr
  rcases st with _ | ⟨a, _ | ⟨b, r⟩⟩
  · cases hr
  · dsimp only at hr
    cases hc : (rn_fk tk vs a && Nat.ble c0 mc && Nat.ble z0 ms) with
    | false => rw [hc] at hr; cases hr
    | true =>
      rw [hc] at hr
      cases hr
      rw [Bool.and_eq_true, Bool.and_eq_true] at hc
      obtain ⟨⟨c1, c2⟩, c3⟩ := hc
      have c2 := Nat.le_of_ble_eq_true c2
      have c3 := Nat.le_of_ble_eq_true c3
      obtain ⟨hx, hb, hml, hown, hts, hlk, hK, hN0, hFF, ⟨htb, hnm, hret⟩, -⟩ := hF
      intro G ws H locs ls stk hR hL hs
      obtain ⟨v, r1, rfl, g4, g5⟩ := rn_gs.pop hs
      cases r1 with
      | cons _ _ => exact g5.elim
      | nil =>
        obtain ⟨n1, n2⟩ := rn_fk_ok hR.2.1 htk g4 c1
        refine W.widen (k := mc) (n := ms) c2 c3 ?_
        refine h3 _ List.mem_cons_self G ws H locs hR pc0 ls (some v) i g4 ?_ ⟨ty, hret.trans hrt, n1, n2⟩ hd
        rcases hi with ⟨rfl, rfl⟩ | ⟨rfl, rfl⟩ | ⟨hi, rfl⟩
        · obtain ⟨y, rfl⟩ := rn_g.long g4 c1
          exact Or.inr (Or.inr (Or.inl ⟨y, rfl, rfl⟩))
        · rcases rn_g.addr g4 c1 with rfl | ⟨q, rfl⟩
          · exact Or.inr (Or.inr (Or.inr ⟨Or.inl rfl, rfl⟩))
          · exact Or.inr (Or.inr (Or.inr ⟨Or.inr ⟨q, rfl⟩, rfl⟩))
        · have hI : rn_isI a = true := by
            rcases hi with rfl | rfl
            · exact c1
            · have h9 : (rn_isI a && (match rn_hull vs a with
                | some r => decide (0 ≤ r.1) && decide (r.2 ≤ 1)
                | none => false)) = true := c1
              rw [Bool.and_eq_true] at h9
              exact h9.1
          obtain ⟨y, rfl⟩ := rn_g.int g4 hI
          exact Or.inr (Or.inl ⟨y, rfl, rfl⟩)
  · cases hr
theorem rn_retv {M : Nat → rn_D} {own : String} {cc : ByteArray} {nL : Nat} {hh : rn_H} {pc : Nat} (hd : decode cc pc = .ok (.return_, 1)) (hrt : hh.2.2 = none) : rn_TS M own cc nL hh pc rn_rv0 := by
  rintro ⟨p, l, e, R, s, m, args, below, meth, c, D, cA, N0, E, G0, Q⟩ d mc ms k call ⟨vs, h, nx, pc0, al, st, c0, z0⟩ outs hF hpc hr _ _ h3
  cases hpc
  unfold rn_rv0 at hr
  dsimp only at hr
  rcases st with _ | ⟨b, r⟩
  · dsimp only at hr
    cases hc : (Nat.ble c0 mc && Nat.ble z0 ms) with
    | false => rw [hc] at hr; cases hr
    | true =>
      rw [hc] at hr
      cases hr
      rw [Bool.and_eq_true] at hc
      have c2 := Nat.le_of_ble_eq_true hc.1
      have c3 := Nat.le_of_ble_eq_true hc.2
      obtain ⟨hx, hb, hml, hown, hts, hlk, hK, hN0, hFF, ⟨htb, hnm, hret⟩, -⟩ := hF
      intro G ws H locs ls stk hR hL hs
      cases stk with
      | cons _ _ => exact hs.elim
      | nil =>
        refine W.widen (k := mc) (n := ms) c2 c3 ?_
        exact h3 _ List.mem_cons_self G ws H locs hR pc0 ls none .return_ trivial (Or.inl ⟨rfl, rfl⟩) (hret.trans hrt) hd
  · cases hr
/-! one value within another -/
def rn_sub : List Nat → List Nat → Bool
  | [], _ => true
  | a :: l, m => (m.any fun b => Nat.beq a b) && rn_sub l m
theorem rn_sub_ok {m : List Nat} : ∀ {l : List Nat}, rn_sub l m = true → ∀ x ∈ l, x ∈ m
  | [], _, x, hx => by cases hx
  | a :: l, h, x, hx => by
    unfold rn_sub at h
    rw [Bool.and_eq_true] at h
    rcases List.mem_cons.mp hx with e | hx
    · obtain ⟨b, hb, e2⟩ := List.any_eq_true.mp h.1
      rw [e, Nat.eq_of_beq_eq_true e2]
      exact hb
    · exact rn_sub_ok h.2 x hx
/-- variables: what is said of them in v2 holds by v1 -/
def rn_nl : List Nat → List Nat → Bool
  | [], [] => true
  | a :: l, b :: m => Nat.beq a b && rn_nl l m
  | _, _ => false
theorem rn_nl_ok : ∀ {l m : List Nat}, rn_nl l m = true → l = m
  | [], [], _ => rfl
  | a :: l, b :: m, h => by
    unfold rn_nl at h
    rw [Bool.and_eq_true] at h
    rw [Nat.eq_of_beq_eq_true h.1, rn_nl_ok h.2]
  | [], _ :: _, h => by cases h
  | _ :: _, [], h => by cases h
def rn_lv : List (List Nat) → List (List Nat) → Bool
  | _, [] => true
  | [], _ :: _ => false
  | a :: l, b :: m => cond (rn_nl a b) true (rn_sub a b) && rn_lv l m
theorem rn_lv_ok : ∀ {v1 v2 : List (List Nat)} {f : Nat → Nat}, rn_lv v1 v2 = true → (∀ (x : Nat) (l : List Nat), v1[x]? = some l → f x ∈ l) → ∀ (x : Nat) (l : List Nat), v2[x]? = some l → f x ∈ l
  | _, [], _, _, _, x, l, h => by simp at h
  | [], _ :: _, _, h, _, _, _, _ => by cases h
  | a :: v1, b :: v2, f, h, hv, 0, l, hx => by
    unfold rn_lv at h
    rw [Bool.and_eq_true] at h
    rw [List.getElem?_cons_zero] at hx
    cases hx
    have h0 := hv 0 a List.getElem?_cons_zero
    have h1 := h.1
    cases hq : rn_nl a b with
    | true => rw [← rn_nl_ok hq]; exact h0
    | false => rw [hq] at h1; exact rn_sub_ok h1 _ h0
  | a :: v1, b :: v2, f, h, hv, x + 1, l, hx => by
    unfold rn_lv at h
    rw [Bool.and_eq_true] at h
    rw [List.getElem?_cons_succ] at hx
    exact rn_lv_ok (f := fun y => f (y + 1)) h.2 (fun y k hy => hv (y + 1) k (by rw [List.getElem?_cons_succ]; exact hy)) x l hx
def rn_il : List Int → List Int → Bool
  | [], [] => true
  | a :: l, b :: m => decide (a = b) && rn_il l m
  | _, _ => false
theorem rn_il_ok : ∀ {l m : List Int}, rn_il l m = true → l = m
  | [], [], _ => rfl
  | a :: l, b :: m, h => by
    unfold rn_il at h
    rw [Bool.and_eq_true, decide_eq_true_eq] at h
    rw [h.1, rn_il_ok h.2]
  | [], _ :: _, h => by cases h
  | _ :: _, [], h => by cases h
/-- at each place that the variable may be, the first table has what the second has -/
def rn_tt (t u : List Int) : List Nat → Bool
  | [] => true
  | i :: l => (match t[i]? with
    | none => true
    | some a => match u[i]? with
      | none => false
      | some b => decide (a = b)) && rn_tt t u l
theorem rn_tt_ok {t u : List Int} : ∀ {l : List Nat}, rn_tt t u l = true → ∀ i ∈ l, ∀ a, t[i]? = some a → u[i]? = some a
  | [], _, i, hi => by cases hi
  | j :: l, h, i, hi => by
    unfold rn_tt at h
    rw [Bool.and_eq_true] at h
    rcases List.mem_cons.mp hi with e | hi
    · subst e
      intro a ha
      have h1 := h.1
      rw [ha] at h1
      dsimp only at h1
      cases hu : u[i]? with
      | none => rw [hu] at h1; cases h1
      | some b =>
        rw [hu] at h1
        rw [of_decide_eq_true h1]
    · exact rn_tt_ok h.2 i hi
def rn_tc (c : Int) (u : List Int) : List Nat → Bool
  | [] => true
  | i :: l => (match u[i]? with
      | none => false
      | some b => decide (c = b)) && rn_tc c u l
theorem rn_tc_ok {c : Int} {u : List Int} : ∀ {l : List Nat}, rn_tc c u l = true → ∀ i ∈ l, u[i]? = some c
  | [], _, i, hi => by cases hi
  | j :: l, h, i, hi => by
    unfold rn_tc at h
    rw [Bool.and_eq_true] at h
    rcases List.mem_cons.mp hi with e | hi
    · subst e
      have h1 := h.1
      cases hu : u[i]? with
      | none => rw [hu] at h1; cases h1
      | some b =>
        rw [hu] at h1
        rw [of_decide_eq_true h1]
    · exact rn_tc_ok h.2 i hi
def rn_leV (vs : List (List Nat)) (a b : rn_V) : Bool := match b with
  | .inl r => match rn_hull vs a with
    | none => false
    | some q => decide (r.1 ≤ q.1) && decide (q.2 ≤ r.2)
  | .inr (.inl w) => match a with
    | .inr (.inl v) => Nat.beq v.1 w.1 && (match vs[w.1]? with
      | some l => rn_tt v.2 w.2 l
      | none => rn_il v.2 w.2)
    | .inl r => decide (r.1 = r.2) && (match vs[w.1]? with
      | some l => rn_tc r.1 w.2 l
      | none => false)
    | _ => false
  | .inr (.inr (.inl k)) => match a with
    | .inr (.inr (.inl j)) => Nat.beq j k
    | _ => false
  | .inr (.inr (.inr (.inl k))) => match k with
    | 1 => (match rn_nu a with
      | some b => !b
      | none => false)
    | 3 => rn_isL a
    | k => match a with
      | .inr (.inr (.inr (.inl j))) => Nat.beq j k
      | _ => false
  | .inr (.inr (.inr (.inr (.inl c)))) => match a with
    | .inr (.inr (.inr (.inr (.inl d)))) => Nat.ble d c
    | _ => false
  | .inr (.inr (.inr (.inr (.inr (.inl j))))) => match a with
    | .inr (.inr (.inr (.inr (.inr (.inl i))))) => Nat.beq i j
    | _ => false
  | .inr (.inr (.inr (.inr (.inr (.inr w))))) => match a with
    | .inr (.inr (.inr (.inr (.inr (.inr v))))) => decide (v.1 = w.1) && rn_nl v.2 w.2
    | _ => false
theorem rn_leV_ok {E : rn_E} {G : rn_G} {vs : List (List Nat)} (hv : rn_okV E vs) {a b : rn_V} (h : rn_leV vs a b = true) {u : Value} (hg : rn_g E G a u) : rn_g E G b u := by
  unfold rn_leV at h
  split at h
  · rename_i r
    cases h1 : rn_hull vs a with
    | none => rw [h1] at h; cases h
    | some q =>
      rw [h1] at h
      dsimp only at h
      rw [Bool.and_eq_true, decide_eq_true_eq, decide_eq_true_eq] at h
      obtain ⟨y, e, a1, a2⟩ := rn_hull_ok hv h1 hg
      exact ⟨y, e, by omega, by omega⟩
  · rename_i w
    split at h
    · rename_i v
      rw [Bool.and_eq_true] at h
      have e : v.1 = w.1 := Nat.eq_of_beq_eq_true h.1
      obtain ⟨y, e1, e2⟩ := hg
      refine ⟨y, e1, ?_⟩
      rw [e] at e2
      have h2 := h.2
      cases hl : vs[w.1]? with
      | none =>
        rw [hl] at h2
        rw [← rn_il_ok h2]
        exact e2
      | some l =>
        rw [hl] at h2
        exact rn_tt_ok h2 _ (hv _ _ hl) _ e2
    · rename_i r
      rw [Bool.and_eq_true, decide_eq_true_eq] at h
      obtain ⟨y, e1, a1, a2⟩ := hg
      have h2 := h.2
      cases hl : vs[w.1]? with
      | none => rw [hl] at h2; cases h2
      | some l =>
        rw [hl] at h2
        refine ⟨y, e1, ?_⟩
        rw [rn_tc_ok h2 _ (hv _ _ hl), show r.1 = y.toInt by omega]
    · cases h
  · split at h
    · have e := Nat.eq_of_beq_eq_true h
      rw [← e]
      exact hg
    · cases h
  · split at h
    · cases hn : rn_nu a with
      | none => rw [hn] at h; cases h
      | some b =>
        rw [hn] at h
        rcases rn_nu_ok hg hn with ⟨rfl, -⟩ | ⟨-, q, e⟩
        · cases h
        · exact Or.inr (Or.inl ⟨rfl, q, e⟩)
    · obtain ⟨y, rfl⟩ := rn_g.long hg h
      exact rn_al_ok y
    · split at h
      · have e := Nat.eq_of_beq_eq_true h
        rw [← e]
        exact hg
      · cases h
  · split at h
    · obtain ⟨y, e, a1, a2⟩ := hg
      have h := Nat.le_of_ble_eq_true h
      exact ⟨y, e, a1, by omega⟩
    · cases h
  · split at h
    · have e := Nat.eq_of_beq_eq_true h
      rw [← e]
      exact hg
    · cases h
  · split at h
    · rename_i w v
      rw [Bool.and_eq_true, decide_eq_true_eq] at h
      obtain ⟨y, e1, e2⟩ := hg
      refine ⟨y, by rw [← rn_nl_ok h.2]; exact e1, by rw [← h.1]; exact e2⟩
    · cases h
def rn_leL (vs : List (List Nat)) : List rn_V → List rn_V → Bool
  | [], [] => true
  | a :: l, b :: m => rn_leV vs a b && rn_leL vs l m
  | _, _ => false
theorem rn_leL_len {vs : List (List Nat)} : ∀ {l m : List rn_V}, rn_leL vs l m = true → l.length = m.length
  | [], [], _ => rfl
  | _ :: l, _ :: m, h => by
    unfold rn_leL at h
    rw [Bool.and_eq_true] at h
    rw [List.length_cons, List.length_cons, rn_leL_len h.2]
  | [], _ :: _, h => by cases h
  | _ :: _, [], h => by cases h
theorem rn_leL_at {vs : List (List Nat)} : ∀ {l m : List rn_V}, rn_leL vs l m = true → ∀ (j : Nat) (b : rn_V), m[j]? = some b → ∃ a, l[j]? = some a ∧ rn_leV vs a b = true
  | [], [], _, j, b, hb => by simp at hb
  | a :: l, c :: m, h, 0, b, hb => by
    unfold rn_leL at h
    rw [Bool.and_eq_true] at h
    rw [List.getElem?_cons_zero] at hb
    cases hb
    exact ⟨a, List.getElem?_cons_zero, h.1⟩
  | a :: l, c :: m, h, j + 1, b, hb => by
    unfold rn_leL at h
    rw [Bool.and_eq_true] at h
    rw [List.getElem?_cons_succ] at hb
    obtain ⟨x, h1, h2⟩ := rn_leL_at h.2 j b hb
    exact ⟨x, by rw [List.getElem?_cons_succ]; exact h1, h2⟩
  | [], _ :: _, h, _, _, _ => by cases h
  | _ :: _, [], h, _, _, _ => by cases h
theorem rn_leL_ok {E : rn_E} {G : rn_G} {vs : List (List Nat)} (hv : rn_okV E vs) : ∀ {l m : List rn_V} {us : List Value}, rn_leL vs l m = true → rn_gs E G l us → rn_gs E G m us
  | [], [], _, _, hg => hg
  | a :: l, b :: m, u :: us, h, hg => by
    unfold rn_leL at h
    rw [Bool.and_eq_true] at h
    exact ⟨rn_leV_ok hv h.1 hg.1, rn_leL_ok hv h.2 hg.2⟩
  | _ :: _, _ :: _, [], _, hg => hg.elim
  | [], _ :: _, _, h, _ => by cases h
  | _ :: _, [], _, h, _ => by cases h
/-- the same, as it is written -/
def rn_eqI (x y : Int) : Bool := match x with
  | .ofNat m => match y with
    | .ofNat n => Nat.beq m n
    | _ => false
  | .negSucc m => match y with
    | .negSucc n => Nat.beq m n
    | _ => false
theorem rn_eqI_ok {x y : Int} (h : rn_eqI x y = true) : x = y := by
  unfold rn_eqI at h
  cases x with
  | ofNat m =>
    cases y with
    | ofNat n => rw [Nat.eq_of_beq_eq_true h]
    | negSucc n => cases h
  | negSucc m =>
    cases y with
    | ofNat n => cases h
    | negSucc n => rw [Nat.eq_of_beq_eq_true h]
def rn_eqT : List Int → List Int → Bool
  | [], [] => true
  | a :: l, b :: m => rn_eqI a b && rn_eqT l m
  | _, _ => false
theorem rn_eqT_ok : ∀ {l m : List Int}, rn_eqT l m = true → l = m
  | [], [], _ => rfl
  | a :: l, b :: m, h => by
    unfold rn_eqT at h
    rw [Bool.and_eq_true] at h
    rw [rn_eqI_ok h.1, rn_eqT_ok h.2]
  | [], _ :: _, h => by cases h
  | _ :: _, [], h => by cases h
def rn_eqV (a b : rn_V) : Bool := match a with
  | .inl r => match b with
    | .inl q => rn_eqI r.1 q.1 && rn_eqI r.2 q.2
    | _ => false
  | .inr (.inl w) => match b with
    | .inr (.inl v) => Nat.beq w.1 v.1 && rn_eqT w.2 v.2
    | _ => false
  | .inr (.inr (.inl j)) => match b with
    | .inr (.inr (.inl k)) => Nat.beq j k
    | _ => false
  | .inr (.inr (.inr (.inl j))) => match b with
    | .inr (.inr (.inr (.inl k))) => Nat.beq j k
    | _ => false
  | .inr (.inr (.inr (.inr (.inl j)))) => match b with
    | .inr (.inr (.inr (.inr (.inl k)))) => Nat.beq j k
    | _ => false
  | .inr (.inr (.inr (.inr (.inr (.inl j))))) => match b with
    | .inr (.inr (.inr (.inr (.inr (.inl k))))) => Nat.beq j k
    | _ => false
  | .inr (.inr (.inr (.inr (.inr (.inr w))))) => match b with
    | .inr (.inr (.inr (.inr (.inr (.inr v))))) => rn_eqI w.1 v.1 && rn_nl w.2 v.2
    | _ => false
theorem rn_eqV_ok {a b : rn_V} (h : rn_eqV a b = true) : a = b := by
  rcases a with a | a | a | a | a | a | a
  · rcases b with b | b
    · have h : (rn_eqI a.1 b.1 && rn_eqI a.2 b.2) = true := h
      rw [Bool.and_eq_true] at h
      rw [show a = b from Prod.ext (rn_eqI_ok h.1) (rn_eqI_ok h.2)]
    · cases h
  · rcases b with b | b | b
    · cases h
    · have h : (Nat.beq a.1 b.1 && rn_eqT a.2 b.2) = true := h
      rw [Bool.and_eq_true] at h
      rw [show a = b from Prod.ext (Nat.eq_of_beq_eq_true h.1) (rn_eqT_ok h.2)]
    · cases h
  · rcases b with b | b | b | b
    · cases h
    · cases h
    · rw [show a = b from Nat.eq_of_beq_eq_true h]
    · cases h
  · rcases b with b | b | b | b | b
    · cases h
    · cases h
    · cases h
    · rw [show a = b from Nat.eq_of_beq_eq_true h]
    · cases h
  · rcases b with b | b | b | b | b | b
    · cases h
    · cases h
    · cases h
    · cases h
    · rw [show a = b from Nat.eq_of_beq_eq_true h]
    · cases h
  · rcases b with b | b | b | b | b | b | b
    · cases h
    · cases h
    · cases h
    · cases h
    · cases h
    · rw [show a = b from Nat.eq_of_beq_eq_true h]
    · cases h
  · rcases b with b | b | b | b | b | b | b
    · cases h
    · cases h
    · cases h
    · cases h
    · cases h
    · cases h
    · have h : (rn_eqI a.1 b.1 && rn_nl a.2 b.2) = true := h
      rw [Bool.and_eq_true] at h
      rw [show a = b from Prod.ext (rn_eqI_ok h.1) (rn_nl_ok h.2)]
def rn_eqL : List rn_V → List rn_V → Bool
  | [], [] => true
  | a :: l, b :: m => rn_eqV a b && rn_eqL l m
  | _, _ => false
theorem rn_eqL_ok : ∀ {l m : List rn_V}, rn_eqL l m = true → l = m
  | [], [], _ => rfl
  | a :: l, b :: m, h => by
    unfold rn_eqL at h
    rw [Bool.and_eq_true] at h
    rw [rn_eqV_ok h.1, rn_eqL_ok h.2]
  | [], _ :: _, h => by cases h
  | _ :: _, [], h => by cases h
def rn_eqC (a b : rn_C) : Bool := match a with
  | .inl x => match b with
    | .inl y => Nat.beq x.1 y.1 && rn_eqL x.2 y.2
    | _ => false
  | .inr x => match b with
    | .inr y => Nat.beq x.1 y.1 && rn_eqL x.2 y.2
    | _ => false
theorem rn_eqC_ok {a b : rn_C} (h : rn_eqC a b = true) : a = b := by
  rcases a with x | x <;> rcases b with y | y
  · have h : (Nat.beq x.1 y.1 && rn_eqL x.2 y.2) = true := h
    rw [Bool.and_eq_true] at h
    rw [show x = y from Prod.ext (Nat.eq_of_beq_eq_true h.1) (rn_eqL_ok h.2)]
  · cases h
  · cases h
  · have h : (Nat.beq x.1 y.1 && rn_eqL x.2 y.2) = true := h
    rw [Bool.and_eq_true] at h
    rw [show x = y from Prod.ext (Nat.eq_of_beq_eq_true h.1) (rn_eqL_ok h.2)]
def rn_leC0 (vs : List (List Nat)) (a b : rn_C) : Bool := match a, b with
  | .inl x, .inl y => Nat.beq x.1 y.1 && rn_leL vs x.2 y.2
  | .inr x, .inr y => Nat.beq x.1 y.1 && rn_leL vs x.2 y.2
  | _, _ => false
theorem rn_leC0_ok {E : rn_E} {G : rn_G} {cA : Nat → ClassId} {vs : List (List Nat)} (hv : rn_okV E vs) {a b : rn_C} (h : rn_leC0 vs a b = true) {w : va_E} (he : rn_e E G cA a w) : rn_e E G cA b w := by
  rcases a with x | x <;> rcases b with y | y
  · have h : (Nat.beq x.1 y.1 && rn_leL vs x.2 y.2) = true := h
    rw [Bool.and_eq_true] at h
    have e := Nat.eq_of_beq_eq_true h.1
    rcases w with w | w
    · obtain ⟨h1, h2, h3⟩ := he
      refine ⟨by rw [← e]; exact h1, by rw [← rn_leL_len h.2]; exact h2, ?_⟩
      rw [← e]
      revert h3
      generalize w.2.2 = dd
      intro h3
      rcases dd with f | f | f | f | f
      · refine ⟨h3.1, fun j b hj => ?_⟩
        obtain ⟨a, g1, g2⟩ := rn_leL_at h.2 j b hj
        exact rn_leV_ok hv g2 (h3.2 j a g1)
      · refine ⟨h3.1, fun j b hj => ?_⟩
        obtain ⟨a, g1, g2⟩ := rn_leL_at h.2 j b hj
        exact rn_leV_ok hv g2 (h3.2 j a g1)
      · exact h3
      · exact h3
      · refine ⟨h3.1, fun j b hj => ?_⟩
        obtain ⟨a, g1, g2⟩ := rn_leL_at h.2 j b hj
        exact rn_leV_ok hv g2 (h3.2 j a g1)
    · exact he
  · cases h
  · cases h
  · have h : (Nat.beq x.1 y.1 && rn_leL vs x.2 y.2) = true := h
    rw [Bool.and_eq_true] at h
    have e := Nat.eq_of_beq_eq_true h.1
    rcases w with w | w
    · exact he
    · exact ⟨e.symm.trans he.1, rn_leL_ok hv h.2 he.2⟩
def rn_leC (vs : List (List Nat)) (a b : rn_C) : Bool := cond (rn_eqC a b) true (rn_leC0 vs a b)
theorem rn_leC_ok {E : rn_E} {G : rn_G} {cA : Nat → ClassId} {vs : List (List Nat)} (hv : rn_okV E vs) {a b : rn_C} (h : rn_leC vs a b = true) {w : va_E} (he : rn_e E G cA a w) : rn_e E G cA b w := by
  unfold rn_leC at h
  cases hq : rn_eqC a b with
  | true => rw [← rn_eqC_ok hq]; exact he
  | false => rw [hq] at h; exact rn_leC0_ok hv h he
def rn_leH (vs : List (List Nat)) : List rn_C → List rn_C → Bool
  | [], [] => true
  | a :: l, b :: m => rn_leC vs a b && rn_leH vs l m
  | _, _ => false
theorem rn_leH_len {vs : List (List Nat)} : ∀ {l m : List rn_C}, rn_leH vs l m = true → l.length = m.length
  | [], [], _ => rfl
  | _ :: l, _ :: m, h => by
    unfold rn_leH at h
    rw [Bool.and_eq_true] at h
    rw [List.length_cons, List.length_cons, rn_leH_len h.2]
  | [], _ :: _, h => by cases h
  | _ :: _, [], h => by cases h
theorem rn_leH_at {vs : List (List Nat)} : ∀ {l m : List rn_C}, rn_leH vs l m = true → ∀ (j : Nat) (b : rn_C), m[j]? = some b → ∃ a, l[j]? = some a ∧ rn_leC vs a b = true
  | [], [], _, j, b, hb => by simp at hb
  | a :: l, c :: m, h, 0, b, hb => by
    unfold rn_leH at h
    rw [Bool.and_eq_true] at h
    rw [List.getElem?_cons_zero] at hb
    cases hb
    exact ⟨a, List.getElem?_cons_zero, h.1⟩
  | a :: l, c :: m, h, j + 1, b, hb => by
    unfold rn_leH at h
    rw [Bool.and_eq_true] at h
    rw [List.getElem?_cons_succ] at hb
    obtain ⟨x, h1, h2⟩ := rn_leH_at h.2 j b hb
    exact ⟨x, by rw [List.getElem?_cons_succ]; exact h1, h2⟩
  | [], _ :: _, h, _, _, _ => by cases h
  | _ :: _, [], h, _, _, _ => by cases h
theorem rn_leH_ok {E : rn_E} {G : rn_G} {cA : Nat → ClassId} {vs : List (List Nat)} (hv : rn_okV E vs) {l m : List rn_C} (h : rn_leH vs l m = true) {ws : va_W} (hw : rn_w E G cA l ws) : rn_w E G cA m ws := by
  refine ⟨by rw [← rn_leH_len h]; exact hw.1, hw.2.1, fun k c w h1 h2 => ?_⟩
  obtain ⟨a, g1, g2⟩ := rn_leH_at h k c h1
  exact rn_leC_ok hv g2 (hw.2.2 k a w g1 h2)
/-- an end within another -/
def rn_leO (a b : rn_O) : Bool := (match a.2.2.2 with
  | .inl none => (match b.2.2.2 with
    | .inl none => true
    | _ => false)
  | .inl (some x) => (match b.2.2.2 with
    | .inl (some y) => rn_leV a.1 x y
    | _ => false)
  | .inr (.inl x) => (match b.2.2.2 with
    | .inr (.inl y) => Nat.beq x y
    | _ => false)
  | _ => false) && Nat.beq a.2.2.1 b.2.2.1 && rn_lv a.1 b.1 && rn_leH a.1 a.2.1 b.2.1
theorem rn_leO_ok {D : va_G} {cA : Nat → ClassId} {E : rn_E} {N0 : Nat} {G0 G : rn_G} {t : State} {a b : rn_O} (h : rn_leO a b = true) (hp : rn_Po D cA E N0 G0 G a t) : rn_Po D cA E N0 G0 G b t ∧
    (∀ r u, a.2.2.2 = .inl r → rn_ro E G r u → ∃ r', b.2.2.2 = .inl r' ∧ rn_ro E G r' u) ∧ (∀ x, a.2.2.2 = .inr (.inl x) → b.2.2.2 = .inr (.inl x)) := by
  obtain ⟨ws, f1, f2, f3, f4, f5, f6⟩ := hp
  unfold rn_leO at h
  rw [Bool.and_eq_true, Bool.and_eq_true, Bool.and_eq_true] at h
  obtain ⟨⟨⟨h1, h2⟩, h3⟩, h4⟩ := h
  have h2 := Nat.eq_of_beq_eq_true h2
  refine ⟨⟨ws, f1, rn_lv_ok h3 f2, by rw [← h2]; exact f3, rn_leH_ok f2 h4 f4, f5, f6⟩, fun r u hr hu => ?_, fun x hx => ?_⟩
  · rw [hr] at h1
    rcases r with _ | r
    · dsimp only at h1
      split at h1
      · rename_i hb
        exact ⟨none, hb, hu⟩
      · cases h1
    · dsimp only at h1
      split at h1
      · rename_i y hb
        refine ⟨some y, hb, ?_⟩
        rcases u with _ | u
        · exact hu
        · exact rn_leV_ok f2 h1 hu
      · cases h1
  · rw [hx] at h1
    dsimp only at h1
    split at h1
    · rename_i y hb
      rw [hb, Nat.eq_of_beq_eq_true h1]
    · cases h1
/-- ends, made wider, and each but once -/
def rn_dd (o : rn_O) (os : List rn_O) : List rn_O := cond (os.any (rn_leO o)) os (o :: os)
def rn_gn (g : rn_O → rn_O) : List rn_O → List rn_O
  | [] => []
  | o :: l => rn_dd (cond (rn_leO o (g o)) (g o) o) (rn_gn g l)
theorem rn_leO_kind {a b : rn_O} (h : rn_leO a b = true) : ∀ q, b.2.2.2 ≠ .inr (.inr q) := by
  intro q hb
  unfold rn_leO at h
  rw [hb] at h
  rw [Bool.and_eq_true, Bool.and_eq_true, Bool.and_eq_true] at h
  have h1 := h.1.1.1
  split at h1 <;> cases h1
theorem rn_gn_ok {g : rn_O → rn_O} {D : va_G} {cA : Nat → ClassId} {E : rn_E} {N0 : Nat} {G0 G : rn_G} {t : State} : ∀ {os : List rn_O} {o : rn_O}, o ∈ os → rn_Po D cA E N0 G0 G o t → ∃ b ∈ rn_gn g os, rn_Po D cA E N0 G0 G b t ∧
    (∀ r u, o.2.2.2 = .inl r → rn_ro E G r u → ∃ r', b.2.2.2 = .inl r' ∧ rn_ro E G r' u) ∧ (∀ x, o.2.2.2 = .inr (.inl x) → b.2.2.2 = .inr (.inl x))
  | [], o, ho, _ => by cases ho
  | a :: l, o, ho, hp => by
    have wid : ∀ b : rn_O, rn_Po D cA E N0 G0 G b t → rn_Po D cA E N0 G0 G (cond (rn_leO b (g b)) (g b) b) t ∧ (∀ r u, b.2.2.2 = .inl r → rn_ro E G r u → ∃ r', (cond (rn_leO b (g b)) (g b) b).2.2.2 = .inl r' ∧ rn_ro E G r' u) ∧ (∀ x, b.2.2.2 = .inr (.inl x) → (cond (rn_leO b (g b)) (g b) b).2.2.2 = .inr (.inl x)) := by
      intro b hb
      cases hl : rn_leO b (g b) with
      | true => exact rn_leO_ok hl hb
      | false => exact ⟨hb, fun r u h1 h2 => ⟨r, h1, h2⟩, fun x h1 => h1⟩
    unfold rn_gn rn_dd
    rcases List.mem_cons.mp ho with e | ho
    · subst e
      obtain ⟨w1, w2, w3⟩ := wid o hp
      cases hany : (rn_gn g l).any (rn_leO (cond (rn_leO o (g o)) (g o) o)) with
      | false => exact ⟨_, List.mem_cons_self, w1, w2, w3⟩
      | true =>
        obtain ⟨b, hb, hle⟩ := List.any_eq_true.mp hany
        obtain ⟨p1, p2, p3⟩ := rn_leO_ok hle w1
        refine ⟨b, hb, p1, fun r u h1 h2 => ?_, fun x h1 => p3 x (w3 x h1)⟩
        obtain ⟨r', h3, h4⟩ := w2 r u h1 h2
        exact p2 r' u h3 h4
    · obtain ⟨b, hb, p1, p2, p3⟩ := rn_gn_ok (g := g) ho hp
      refine ⟨b, ?_, p1, p2, p3⟩
      cases hany : (rn_gn g l).any (rn_leO (cond (rn_leO a (g a)) (g a) a)) with
      | false => exact List.mem_cons_of_mem _ hb
      | true => exact hb
/-- ends, each but once -/
def rn_dl : List rn_O → List rn_O
  | [] => []
  | o :: l => match l with
    | [] => [o]
    | _ :: _ => rn_dd o (rn_dl l)
theorem rn_dl_ok {D : va_G} {cA : Nat → ClassId} {E : rn_E} {N0 : Nat} {G0 G : rn_G} {t : State} : ∀ {os : List rn_O} {o : rn_O}, o ∈ os → rn_Po D cA E N0 G0 G o t → ∃ b ∈ rn_dl os, rn_Po D cA E N0 G0 G b t ∧
    (∀ r u, o.2.2.2 = .inl r → rn_ro E G r u → ∃ r', b.2.2.2 = .inl r' ∧ rn_ro E G r' u) ∧ (∀ x, o.2.2.2 = .inr (.inl x) → b.2.2.2 = .inr (.inl x))
  | [], o, ho, _ => by cases ho
  | [a], o, ho, hp => by
    have e : o = a := by simpa using ho
    subst e
    exact ⟨o, List.mem_cons_self, hp, fun r u h1 h2 => ⟨r, h1, h2⟩, fun x h => h⟩
  | a :: a2 :: l, o, ho, hp => by
    show ∃ b ∈ rn_dd a (rn_dl (a2 :: l)), _
    unfold rn_dd
    rcases List.mem_cons.mp ho with e | ho
    · subst e
      cases hany : (rn_dl (a2 :: l)).any (rn_leO o) with
      | false => exact ⟨o, List.mem_cons_self, hp, fun r u h1 h2 => ⟨r, h1, h2⟩, fun x h => h⟩
      | true =>
        obtain ⟨b, hb, hle⟩ := List.any_eq_true.mp hany
        exact ⟨b, hb, rn_leO_ok hle hp⟩
    · obtain ⟨b, hb, p1⟩ := rn_dl_ok ho hp
      refine ⟨b, ?_, p1⟩
      cases hany : (rn_dl (a2 :: l)).any (rn_leO a) with
      | false => exact List.mem_cons_of_mem _ hb
      | true => exact hb
def rn_gm (g : Option (rn_O → rn_O)) (os : List rn_O) : List rn_O := match g with
  | none => rn_dl os
  | some g => rn_gn g os
theorem rn_gm_ok {g : Option (rn_O → rn_O)} {D : va_G} {cA : Nat → ClassId} {E : rn_E} {N0 : Nat} {G0 G : rn_G} {t : State} {os : List rn_O} {o : rn_O} (ho : o ∈ os) (hp : rn_Po D cA E N0 G0 G o t) : ∃ b ∈ rn_gm g os, rn_Po D cA E N0 G0 G b t ∧
    (∀ r u, o.2.2.2 = .inl r → rn_ro E G r u → ∃ r', b.2.2.2 = .inl r' ∧ rn_ro E G r' u) ∧ (∀ x, o.2.2.2 = .inr (.inl x) → b.2.2.2 = .inr (.inl x)) := by
  cases g with
  | none => exact rn_dl_ok ho hp
  | some g => exact rn_gn_ok ho hp
end RNL
