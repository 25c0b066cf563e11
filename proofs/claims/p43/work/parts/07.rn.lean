section RNF
def rn_cm (q : ClassFile.Cond) (x y : Int) : Bool := match q with
  | .eq => decide (x = y)
  | .ne => !decide (x = y)
  | .lt => decide (x < y)
  | .ge => decide (y ≤ x)
  | .gt => decide (y < x)
  | .le => decide (x ≤ y)
section
variable {p : Program} {l : Launch} {e : Env} {R : Room} {s : State} {m : MethodId} {args : Array Value} {below : List Frame} {meth : Method} {c : Code} {H : Heap} {locs : List Loc} {cells slots : Nat} {Q : State → Prop} {cc : ByteArray} {pc : Nat} {ls : Array Slot} {rest : List Value}
theorem rn_icmp_row (hexec : p.tables.exec = Jvm.exec) (hb : c.code = cc) {x y : Int32} {off : Int} {tgt : Nat} {q : ClassFile.Cond} (hdg : decode cc pc = .ok (.if_icmp q off, 3)) (ht : (pc : Int) + off = (tgt : Int))
    (kt : rn_cm q x.toInt y.toInt = true → W p l e R s m args below meth c H locs cells slots Q (F0 m tgt ls rest)) (kf : rn_cm q x.toInt y.toInt = false → W p l e R s m args below meth c H locs cells slots Q (F0 m (pc + 3) ls rest)) : W p l e R s m args below meth c H locs cells slots Q (F0 m pc ls (.int y :: .int x :: rest)) := by
  cases q with
  | eq => exact lv_icmp_eq hexec hb hdg ht (fun z => kt (decide_eq_true ((ri_eq _ _).mp z))) (fun z => kf (decide_eq_false fun w => z ((ri_eq _ _).mpr w)))
  | ne => exact lv_icmp_ne hexec hb hdg ht (fun z => kt (by show (!decide (x.toInt = y.toInt)) = true; rw [decide_eq_false fun w => z ((ri_eq _ _).mpr w)]; rfl)) (fun z => kf (by show (!decide (x.toInt = y.toInt)) = false; rw [decide_eq_true ((ri_eq _ _).mp z)]; rfl))
  | lt => exact lv_icmp_lt hexec hb hdg ht (fun z => kt (decide_eq_true ((ri_lt _ _).mp z))) (fun z => kf (decide_eq_false fun w => z ((ri_lt _ _).mpr w)))
  | ge => exact lv_icmp_ge hexec hb hdg ht (fun z => kt (decide_eq_true ((ri_le _ _).mp z))) (fun z => kf (decide_eq_false fun w => z ((ri_le _ _).mpr w)))
  | gt => exact lv_icmp_gt hexec hb hdg ht (fun z => kt (decide_eq_true ((ri_lt _ _).mp z))) (fun z => kf (decide_eq_false fun w => z ((ri_lt _ _).mpr w)))
  | le => exact lv_icmp_le hexec hb hdg ht (fun z => kt (decide_eq_true ((ri_le _ _).mp z))) (fun z => kf (decide_eq_false fun w => z ((ri_le _ _).mpr w)))
theorem rn_if_row (hexec : p.tables.exec = Jvm.exec) (hb : c.code = cc) {x : Int32} {off : Int} {tgt : Nat} {q : ClassFile.Cond} (hdg : decode cc pc = .ok (.ifCond q off, 3)) (ht : (pc : Int) + off = (tgt : Int))
    (kt : rn_cm q x.toInt 0 = true → W p l e R s m args below meth c H locs cells slots Q (F0 m tgt ls rest)) (kf : rn_cm q x.toInt 0 = false → W p l e R s m args below meth c H locs cells slots Q (F0 m (pc + 3) ls rest)) : W p l e R s m args below meth c H locs cells slots Q (F0 m pc ls (.int x :: rest)) := by
  have h0 : (0 : Int32).toInt = 0 := rfl
  rw [← h0] at kt kf
  cases q with
  | eq => exact lv_if_eq hexec hb hdg ht (fun z => kt (decide_eq_true ((ri_eq _ _).mp z))) (fun z => kf (decide_eq_false fun w => z ((ri_eq _ _).mpr w)))
  | ne => exact lv_if_ne hexec hb hdg ht (fun z => kt (by show (!decide (x.toInt = (0 : Int32).toInt)) = true; rw [decide_eq_false fun w => z ((ri_eq _ _).mpr w)]; rfl)) (fun z => kf (by show (!decide (x.toInt = (0 : Int32).toInt)) = false; rw [decide_eq_true ((ri_eq _ _).mp z)]; rfl))
  | lt => exact lv_if_lt hexec hb hdg ht (fun z => kt (decide_eq_true ((ri_lt _ _).mp z))) (fun z => kf (decide_eq_false fun w => z ((ri_lt _ _).mpr w)))
  | ge => exact lv_if_ge hexec hb hdg ht (fun z => kt (decide_eq_true ((ri_le _ _).mp z))) (fun z => kf (decide_eq_false fun w => z ((ri_le _ _).mpr w)))
  | gt => exact lv_if_gt hexec hb hdg ht (fun z => kt (decide_eq_true ((ri_lt _ _).mp z))) (fun z => kf (decide_eq_false fun w => z ((ri_lt _ _).mpr w)))
  | le => exact lv_if_le hexec hb hdg ht (fun z => kt (decide_eq_true ((ri_le _ _).mp z))) (fun z => kf (decide_eq_false fun w => z ((ri_le _ _).mpr w)))
end
def rn_l3 (r s : Int × Int) : Option Bool := cond (decide (r.2 < s.1)) (some true) (cond (decide (s.2 ≤ r.1)) (some false) none)
def rn_e3 (r s : Int × Int) : Option Bool := cond (decide (r.1 = r.2) && decide (s.1 = s.2) && decide (r.1 = s.1)) (some true) (cond (decide (r.2 < s.1) || decide (s.2 < r.1)) (some false) none)
def rn_c3 (q : ClassFile.Cond) (r s : Int × Int) : Option Bool := match q with
  | .eq => rn_e3 r s
  | .ne => (rn_e3 r s).map fun b => !b
  | .lt => rn_l3 r s
  | .ge => (rn_l3 r s).map fun b => !b
  | .gt => rn_l3 s r
  | .le => (rn_l3 s r).map fun b => !b
theorem rn_l3_ok {r s : Int × Int} {x y : Int} (h1 : r.1 ≤ x) (h2 : x ≤ r.2) (h3 : s.1 ≤ y) (h4 : y ≤ s.2) {b : Bool} (h : rn_l3 r s = some b) : decide (x < y) = b := by
  unfold rn_l3 at h
  cases q1 : decide (r.2 < s.1) with
  | true => rw [q1] at h; cases h; have := of_decide_eq_true q1; exact decide_eq_true (by omega)
  | false =>
    rw [q1, cond_false] at h
    cases q2 : decide (s.2 ≤ r.1) with
    | true => rw [q2] at h; cases h; have := of_decide_eq_true q2; exact decide_eq_false (by omega)
    | false => rw [q2] at h; cases h
theorem rn_e3_ok {r s : Int × Int} {x y : Int} (h1 : r.1 ≤ x) (h2 : x ≤ r.2) (h3 : s.1 ≤ y) (h4 : y ≤ s.2) {b : Bool} (h : rn_e3 r s = some b) : decide (x = y) = b := by
  unfold rn_e3 at h
  cases q1 : (decide (r.1 = r.2) && decide (s.1 = s.2) && decide (r.1 = s.1)) with
  | true =>
    rw [q1] at h; cases h
    simp only [Bool.and_eq_true, decide_eq_true_eq] at q1
    exact decide_eq_true (by omega)
  | false =>
    rw [q1, cond_false] at h
    cases q2 : (decide (r.2 < s.1) || decide (s.2 < r.1)) with
    | true =>
      rw [q2] at h; cases h
      simp only [Bool.or_eq_true, decide_eq_true_eq] at q2
      exact decide_eq_false (by omega)
    | false => rw [q2] at h; cases h
theorem rn_c3_ok {q : ClassFile.Cond} {r s : Int × Int} {x y : Int} (h1 : r.1 ≤ x) (h2 : x ≤ r.2) (h3 : s.1 ≤ y) (h4 : y ≤ s.2) {b : Bool} (h : rn_c3 q r s = some b) : rn_cm q x y = b := by
  have hn : ∀ {o : Option Bool} {b : Bool}, o.map (fun b => !b) = some b → o = some (!b) := by
    intro o b h
    cases o with
    | none => cases h
    | some a => cases h; show some a = some (!(!a)); rw [Bool.not_not]
  cases q with
  | eq => exact rn_e3_ok h1 h2 h3 h4 h
  | ne => show (!decide (x = y)) = b; rw [rn_e3_ok h1 h2 h3 h4 (hn h), Bool.not_not]
  | lt => exact rn_l3_ok h1 h2 h3 h4 h
  | ge =>
    have e := rn_l3_ok h1 h2 h3 h4 (hn h)
    show decide (y ≤ x) = b
    by_cases z : x < y
    · rw [decide_eq_true z] at e
      have hb : b = false := by cases b with | false => rfl | true => cases e
      rw [hb]; exact decide_eq_false (by omega)
    · rw [decide_eq_false z] at e
      have hb : b = true := by cases b with | true => rfl | false => cases e
      rw [hb]; exact decide_eq_true (by omega)
  | gt => exact rn_l3_ok h3 h4 h1 h2 h
  | le =>
    have e := rn_l3_ok h3 h4 h1 h2 (hn h)
    show decide (x ≤ y) = b
    by_cases z : y < x
    · rw [decide_eq_true z] at e
      have hb : b = false := by cases b with | false => rfl | true => cases e
      rw [hb]; exact decide_eq_false (by omega)
    · rw [decide_eq_false z] at e
      have hb : b = true := by cases b with | true => rfl | false => cases e
      rw [hb]; exact decide_eq_true (by omega)
/-- the variable x, by whether P holds of what t has there -/
def rn_sp (vs : List (List Nat)) (x : Nat) (P : Nat → Bool) : List (List (List Nat) × Bool) := match vs[x]? with
  | none => [(vs, true), (vs, false)]
  | some l => (match l.filter P with
    | [] => []
    | a :: b => [(vs.set x (a :: b), true)]) ++ (match l.filter (fun i => !P i) with
    | [] => []
    | a :: b => [(vs.set x (a :: b), false)])
theorem rn_okV.set {E : rn_E} {vs : List (List Nat)} (hv : rn_okV E vs) {x : Nat} {l : List Nat} (h : E.1 x ∈ l) : rn_okV E (vs.set x l) := by
  intro y k hy
  by_cases e : y = x
  · subst e
    have hl : y < (vs.set y l).length := (List.getElem?_eq_some_iff.mp hy).1
    rw [List.length_set] at hl
    rw [List.getElem?_set_self hl] at hy
    cases hy
    exact h
  · rw [List.getElem?_set_ne (Ne.symm e)] at hy
    exact hv y k hy
theorem rn_sp_ok {E : rn_E} {vs : List (List Nat)} (hv : rn_okV E vs) (x : Nat) (P : Nat → Bool) : ∃ vs', (vs', P (E.1 x)) ∈ rn_sp vs x P ∧ rn_okV E vs' := by
  unfold rn_sp
  cases hx : vs[x]? with
  | none =>
    refine ⟨vs, ?_, hv⟩
    cases P (E.1 x) with
    | true => exact List.mem_cons_self
    | false => exact List.mem_cons_of_mem _ List.mem_cons_self
  | some l =>
    have hm := hv x l hx
    dsimp only
    cases hp : P (E.1 x) with
    | true =>
      have h1 : E.1 x ∈ l.filter P := List.mem_filter.mpr ⟨hm, hp⟩
      cases hf : l.filter P with
      | nil => rw [hf] at h1; cases h1
      | cons a b =>
        rw [hf] at h1
        exact ⟨vs.set x (a :: b), List.mem_append_left _ List.mem_cons_self, hv.set h1⟩
    | false =>
      have h1 : E.1 x ∈ l.filter (fun i => !P i) := List.mem_filter.mpr ⟨hm, by rw [hp]; rfl⟩
      cases hf : l.filter (fun i => !P i) with
      | nil => rw [hf] at h1; cases h1
      | cons a b =>
        rw [hf] at h1
        exact ⟨vs.set x (a :: b), List.mem_append_right _ List.mem_cons_self, hv.set h1⟩
def rn_at (t : List Int) (P : Int → Bool) (i : Nat) : Bool := match t[i]? with
  | some v => P v
  | none => false
/-- which ways a comparison may go -/
def rn_br0 (q : ClassFile.Cond) (vs : List (List Nat)) (a b : rn_V) : Option (List (List (List Nat) × Bool)) := match rn_hull vs a with
  | none => none
  | some r => match rn_hull vs b with
    | none => none
    | some s => match rn_c3 q r s with
      | some t => some [(vs, t)]
      | none => match a with
        | .inr (.inl w) => cond (decide (s.1 = s.2)) (some (rn_sp vs w.1 (rn_at w.2 fun v => rn_cm q v s.1))) (some [(vs, true), (vs, false)])
        | _ => match b with
          | .inr (.inl w) => cond (decide (r.1 = r.2)) (some (rn_sp vs w.1 (rn_at w.2 fun v => rn_cm q r.1 v))) (some [(vs, true), (vs, false)])
          | _ => some [(vs, true), (vs, false)]
theorem rn_both {E : rn_E} {vs : List (List Nat)} (hv : rn_okV E vs) (t : Bool) : ∃ vs', (vs', t) ∈ [(vs, true), (vs, false)] ∧ rn_okV E vs' := by
  refine ⟨vs, ?_, hv⟩
  cases t with
  | true => exact List.mem_cons_self
  | false => exact List.mem_cons_of_mem _ List.mem_cons_self
theorem rn_br0_ok {q : ClassFile.Cond} {E : rn_E} {G : rn_G} {vs : List (List Nat)} (hv : rn_okV E vs) {a b : rn_V} {x y : Int32} (ha : rn_g E G a (.int x)) (hb : rn_g E G b (.int y)) {L : List (List (List Nat) × Bool)} (h : rn_br0 q vs a b = some L) : ∃ vs', (vs', rn_cm q x.toInt y.toInt) ∈ L ∧ rn_okV E vs' := by
  unfold rn_br0 at h
  cases h1 : rn_hull vs a with
  | none => rw [h1] at h; cases h
  | some r =>
    cases h2 : rn_hull vs b with
    | none => rw [h1, h2] at h; cases h
    | some s =>
      rw [h1, h2] at h
      dsimp only at h
      obtain ⟨x', e, a1, a2⟩ := rn_hull_ok hv h1 ha
      cases e
      obtain ⟨y', e, b1, b2⟩ := rn_hull_ok hv h2 hb
      cases e
      cases h3 : rn_c3 q r s with
      | some t =>
        rw [h3] at h
        cases h
        rw [rn_c3_ok a1 a2 b1 b2 h3]
        exact ⟨vs, List.mem_cons_self, hv⟩
      | none =>
        rw [h3] at h
        dsimp only at h
        split at h
        · rename_i w
          cases hs : decide (s.1 = s.2) with
          | false => rw [hs] at h; cases h; exact rn_both hv _
          | true =>
            rw [hs] at h
            cases h
            have hs := of_decide_eq_true hs
            obtain ⟨x'', e, ht⟩ := ha
            cases e
            have e1 : rn_cm q x.toInt y.toInt = rn_at w.2 (fun v => rn_cm q v s.1) (E.1 w.1) := by
              unfold rn_at
              rw [ht, show y.toInt = s.1 by omega]
            rw [e1]
            exact rn_sp_ok hv _ _
        · split at h
          · rename_i w
            cases hs : decide (r.1 = r.2) with
            | false => rw [hs] at h; cases h; exact rn_both hv _
            | true =>
              rw [hs] at h
              cases h
              have hs := of_decide_eq_true hs
              obtain ⟨y'', e, ht⟩ := hb
              cases e
              have e1 : rn_cm q x.toInt y.toInt = rn_at w.2 (fun v => rn_cm q r.1 v) (E.1 w.1) := by
                unfold rn_at
                rw [ht, show x.toInt = r.1 by omega]
              rw [e1]
              exact rn_sp_ok hv _ _
          · cases h; exact rn_both hv _
/-- two of one variable -/
def rn_e2 (a b : rn_V) : Option (Nat × List Int × List Int) := match a with
  | .inr (.inl w) => match b with
    | .inr (.inl v) => cond (Nat.beq w.1 v.1) (some (w.1, w.2, v.2)) none
    | _ => none
  | _ => none
theorem rn_e2_is {a b : rn_V} {x : Nat} {t u : List Int} (h : rn_e2 a b = some (x, t, u)) : a = .inr (.inl (x, t)) ∧ b = .inr (.inl (x, u)) := by
  unfold rn_e2 at h
  split at h
  · rename_i w
    split at h
    · rename_i v
      cases hb : Nat.beq w.1 v.1 with
      | false => rw [hb] at h; cases h
      | true =>
        rw [hb] at h
        cases h
        have e := Nat.eq_of_beq_eq_true hb
        obtain ⟨w1, w2⟩ := w
        obtain ⟨v1, v2⟩ := v
        dsimp only at e
        subst e
        exact ⟨rfl, rfl⟩
    · cases h
  · cases h
def rn_at2 (t u : List Int) (q : ClassFile.Cond) (i : Nat) : Bool := match t[i]? with
  | some v => match u[i]? with
    | some w => rn_cm q v w
    | none => false
  | none => false
def rn_br (q : ClassFile.Cond) (vs : List (List Nat)) (a b : rn_V) : Option (List (List (List Nat) × Bool)) := match rn_e2 a b with
  | some r => some (rn_sp vs r.1 (rn_at2 r.2.1 r.2.2 q))
  | none => rn_br0 q vs a b
theorem rn_br_ok {q : ClassFile.Cond} {E : rn_E} {G : rn_G} {vs : List (List Nat)} (hv : rn_okV E vs) {a b : rn_V} {x y : Int32} (ha : rn_g E G a (.int x)) (hb : rn_g E G b (.int y)) {L : List (List (List Nat) × Bool)} (h : rn_br q vs a b = some L) : ∃ vs', (vs', rn_cm q x.toInt y.toInt) ∈ L ∧ rn_okV E vs' := by
  unfold rn_br at h
  cases he : rn_e2 a b with
  | none =>
    rw [he] at h
    exact rn_br0_ok hv ha hb h
  | some r =>
    rw [he] at h
    cases h
    obtain ⟨k, t, u⟩ := r
    obtain ⟨rfl, rfl⟩ := rn_e2_is he
    obtain ⟨x', e, h1⟩ := ha
    cases e
    obtain ⟨y', e, h2⟩ := hb
    cases e
    have h1 : t[E.1 k]? = some x.toInt := h1
    have h2 : u[E.1 k]? = some y.toInt := h2
    have e9 : rn_cm q x.toInt y.toInt = rn_at2 t u q (E.1 k) := by
      unfold rn_at2
      rw [h1, h2]
    rw [e9]
    exact rn_sp_ok hv _ _
section
variable {own : String} {cc : ByteArray} {nL : Nat} {hh : rn_H} {pc : Nat}
def rn_ic (q : ClassFile.Cond) (t : Nat) : Nat → Nat → rn_S → Option (List rn_S) := fun _ _ (vs, h, nx, pc, al, st, c, z) => match st with
  | b :: a :: r => cond (rn_isI a && rn_isI b) (match rn_br q vs a b with
    | none => none
    | some L => some (L.map fun w => (w.1, h, nx, cond w.2 t (pc + 3), al, r, c, z))) none
  | _ => none
def rn_if (q : ClassFile.Cond) (t : Nat) : Nat → Nat → rn_S → Option (List rn_S) := fun _ _ (vs, h, nx, pc, al, st, c, z) => match st with
  | a :: r => cond (rn_isI a) (match rn_br q vs a (.inl (0, 0)) with
    | none => none
    | some L => some (L.map fun w => (w.1, h, nx, cond w.2 t (pc + 3), al, r, c, z))) none
  | _ => none
theorem rn_icmp {q : ClassFile.Cond} {o : Int} {t : Nat} (hd : decode cc pc = .ok (.if_icmp q o, 3)) (ht : (pc : Int) + o = (t : Int)) : rn_SS own cc nL hh pc (rn_ic q t) := by
  rintro ⟨p, l, e, R, s, m, args, below, meth, c, D, cA, N0, E, G0, Q⟩ d mc ms ⟨vs, h, nx, pc0, al, st, c0, z0⟩ lS hF hpc hf hk
  cases hpc
  unfold rn_ic at hf
  dsimp only at hf
  rcases st with _ | ⟨b, _ | ⟨a, r⟩⟩
  · cases hf
  · cases hf
  · dsimp only at hf
    cases h2 : (rn_isI a && rn_isI b) with
    | false => rw [h2] at hf; cases hf
    | true =>
      rw [h2, cond_true] at hf
      rw [Bool.and_eq_true] at h2
      cases h3 : rn_br q vs a b with
      | none => rw [h3] at hf; cases hf
      | some L =>
        rw [h3] at hf
        cases hf
        obtain ⟨hx, hb, -⟩ := hF
        intro G ws H locs ls stk hR hL hs
        obtain ⟨v, r1, rfl, g4, g5⟩ := rn_gs.pop hs
        obtain ⟨w, r2, rfl, g6, g7⟩ := rn_gs.pop g5
        obtain ⟨y, rfl⟩ := rn_g.int g4 h2.2
        obtain ⟨x, rfl⟩ := rn_g.int g6 h2.1
        obtain ⟨vs', hm, hv'⟩ := rn_br_ok hR.2.1 g6 g4 h3
        have key := hk _ (List.mem_map.mpr ⟨_, hm, rfl⟩) G ws H locs ls _ ⟨hR.1, hv', hR.2.2⟩ hL g7
        refine rn_icmp_row hx hb hd ht (fun z => ?_) (fun z => ?_)
        · rw [z] at key; exact key
        · rw [z] at key; exact key
theorem rn_ifc {q : ClassFile.Cond} {o : Int} {t : Nat} (hd : decode cc pc = .ok (.ifCond q o, 3)) (ht : (pc : Int) + o = (t : Int)) : rn_SS own cc nL hh pc (rn_if q t) := by
  rintro ⟨p, l, e, R, s, m, args, below, meth, c, D, cA, N0, E, G0, Q⟩ d mc ms ⟨vs, h, nx, pc0, al, st, c0, z0⟩ lS hF hpc hf hk
  cases hpc
  unfold rn_if at hf
  dsimp only at hf
  rcases st with _ | ⟨a, r⟩
  · cases hf
  · dsimp only at hf
    cases h2 : rn_isI a with
    | false => rw [h2] at hf; cases hf
    | true =>
      rw [h2, cond_true] at hf
      cases h3 : rn_br q vs a (.inl (0, 0)) with
      | none => rw [h3] at hf; cases hf
      | some L =>
        rw [h3] at hf
        cases hf
        obtain ⟨hx, hb, -⟩ := hF
        intro G ws H locs ls stk hR hL hs
        obtain ⟨v, r1, rfl, g4, g5⟩ := rn_gs.pop hs
        obtain ⟨x, rfl⟩ := rn_g.int g4 h2
        have g0 : rn_g E G (.inl (0, 0)) (.int 0) := ⟨0, rfl, Int.le_refl _, Int.le_refl _⟩
        obtain ⟨vs', hm, hv'⟩ := rn_br_ok hR.2.1 g4 g0 h3
        have key := hk _ (List.mem_map.mpr ⟨_, hm, rfl⟩) G ws H locs ls _ ⟨hR.1, hv', hR.2.2⟩ hL g5
        have h0 : (0 : Int32).toInt = 0 := rfl
        rw [h0] at key
        refine rn_if_row hx hb hd ht (fun z => ?_) (fun z => ?_)
        · rw [z] at key; exact key
        · rw [z] at key; exact key
/-! null or not -/
def rn_nu (a : rn_V) : Option Bool := match a with
  | .inr (.inr (.inl _)) => some false
  | .inr (.inr (.inr (.inl k))) => match k with
    | 0 => some true
    | 1 => some false
    | 2 => some false
    | 4 => some false
    | _ => none
  | _ => none
theorem rn_nu_ok {E : rn_E} {G : rn_G} {a : rn_V} {v : Value} (hg : rn_g E G a v) {b : Bool} (h : rn_nu a = some b) : (b = true ∧ v = .null) ∨ (b = false ∧ ∃ q, v = .ref q) := by
  rcases a with a | a | a | a | a | a | a
  · cases h
  · cases h
  · cases h
    obtain ⟨q, -, e⟩ := hg
    exact Or.inr ⟨rfl, q, e⟩
  · rcases hg with ⟨rfl, e⟩ | ⟨rfl, q, e⟩ | ⟨rfl, e⟩ | ⟨rfl, q, e⟩ | ⟨rfl, e⟩ | ⟨rfl, q, e, -⟩
    · cases h; exact Or.inl ⟨rfl, e⟩
    · cases h; exact Or.inr ⟨rfl, q, e⟩
    · cases h; exact Or.inr ⟨rfl, _, e⟩
    · cases h
    · cases h; exact Or.inr ⟨rfl, _, e⟩
    · cases h
  · cases h
  · cases h
  · cases h
def rn_in0 (t : Nat) (w : Bool) : Nat → Nat → rn_S → Option (List rn_S) := fun _ _ (vs, h, nx, pc, al, st, c, z) => match st with
  | a :: r => match rn_nu a with
    | none => none
    | some b => some [(vs, h, nx, cond (b == w) t (pc + 3), al, r, c, z)]
  | _ => none
theorem rn_ifnull {o : Int} {t : Nat} (hd : decode cc pc = .ok (.ifnull o, 3)) (ht : (pc : Int) + o = (t : Int)) : rn_SS own cc nL hh pc (rn_in0 t true) := by
  rintro ⟨p, l, e, R, s, m, args, below, meth, c, D, cA, N0, E, G0, Q⟩ d mc ms ⟨vs, h, nx, pc0, al, st, c0, z0⟩ lS hF hpc hf hk
  cases hpc
  unfold rn_in0 at hf
  dsimp only at hf
  rcases st with _ | ⟨a, r⟩
  · cases hf
  · dsimp only at hf
    cases h3 : rn_nu a with
    | none => rw [h3] at hf; cases hf
    | some b =>
      rw [h3] at hf
      cases hf
      obtain ⟨hx, hb, -⟩ := hF
      intro G ws H locs ls stk hR hL hs
      obtain ⟨v, r1, rfl, g4, g5⟩ := rn_gs.pop hs
      have key := hk _ List.mem_cons_self G ws H locs ls _ hR hL g5
      rcases rn_nu_ok g4 h3 with ⟨rfl, rfl⟩ | ⟨rfl, q, rfl⟩
      · exact lv_ifnullN hx hb hd ht key
      · exact lv_ifnull hx hb hd key
theorem rn_ifnonnull {o : Int} {t : Nat} (hd : decode cc pc = .ok (.ifnonnull o, 3)) (ht : (pc : Int) + o = (t : Int)) : rn_SS own cc nL hh pc (rn_in0 t false) := by
  rintro ⟨p, l, e, R, s, m, args, below, meth, c, D, cA, N0, E, G0, Q⟩ d mc ms ⟨vs, h, nx, pc0, al, st, c0, z0⟩ lS hF hpc hf hk
  cases hpc
  unfold rn_in0 at hf
  dsimp only at hf
  rcases st with _ | ⟨a, r⟩
  · cases hf
  · dsimp only at hf
    cases h3 : rn_nu a with
    | none => rw [h3] at hf; cases hf
    | some b =>
      rw [h3] at hf
      cases hf
      obtain ⟨hx, hb, -⟩ := hF
      intro G ws H locs ls stk hR hL hs
      obtain ⟨v, r1, rfl, g4, g5⟩ := rn_gs.pop hs
      have key := hk _ List.mem_cons_self G ws H locs ls _ hR hL g5
      rcases rn_nu_ok g4 h3 with ⟨rfl, rfl⟩ | ⟨rfl, q, rfl⟩
      · exact lv_ifnonnullN hx hb hd key
      · exact lv_ifnonnull hx hb hd ht key
/-! one address or two -/
def rn_sa (a b : rn_V) : Option Bool := match a, b with
  | .inr (.inr (.inl k)), .inr (.inr (.inl j)) => some (Nat.beq k j)
  | .inr (.inr (.inr (.inl k))), .inr (.inr (.inr (.inl j))) => cond (Nat.beq k 4 && Nat.beq j 4) (some true) none
  | _, _ => none
theorem rn_w.inj {E : rn_E} {G : rn_G} {cA : Nat → ClassId} {h : List rn_C} {ws : va_W} (hw : rn_w E G cA h ws) {A : Nat → Prop} (hD : va_D A ws) {j k q : Nat} (h1 : G.1[j]? = some q) (h2 : G.1[k]? = some q) : j = k := by
  rw [← hw.2.1, List.getElem?_map] at h1 h2
  cases e1 : ws[j]? with
  | none => rw [e1] at h1; cases h1
  | some x =>
    cases e2 : ws[k]? with
    | none => rw [e2] at h2; cases h2
    | some y =>
      rw [e1] at h1
      rw [e2] at h2
      exact hD.1 j k x y e1 e2 ((Option.some.inj h1).trans (Option.some.inj h2).symm)
theorem rn_sa_ok {E : rn_E} {G : rn_G} {cA : Nat → ClassId} {h : List rn_C} {ws : va_W} (hw : rn_w E G cA h ws) {A : Nat → Prop} (hD : va_D A ws) {a b : rn_V} {u v : Value} (ha : rn_g E G a u) (hb : rn_g E G b v) {t : Bool} (ht : rn_sa a b = some t) : ∃ x y : Nat, u = va_rf (some x) ∧ v = va_rf (some y) ∧ (some x = some y ↔ t = true) := by
  unfold rn_sa at ht
  split at ht
  · rename_i k j
    cases ht
    obtain ⟨x, h1, e1⟩ := ha
    obtain ⟨y, h2, e2⟩ := hb
    refine ⟨x, y, e1, e2, fun z => ?_, fun z => ?_⟩
    · cases z
      rw [hw.inj hD h1 h2]
      exact Nat.beq_refl _
    · have e : k = j := Nat.eq_of_beq_eq_true z
      subst e
      rw [h1] at h2
      exact h2
  · rename_i k j
    cases hc : (Nat.beq k 4 && Nat.beq j 4) with
    | false => rw [hc] at ht; cases ht
    | true =>
      rw [hc] at ht
      cases ht
      rw [Bool.and_eq_true] at hc
      have e1 : k = 4 := Nat.eq_of_beq_eq_true hc.1
      have e2 : j = 4 := Nat.eq_of_beq_eq_true hc.2
      subst e1; subst e2
      rcases ha with ⟨q, -⟩ | ⟨q, -⟩ | ⟨q, -⟩ | ⟨q, -⟩ | ⟨-, e⟩ | ⟨q, -⟩
      · cases q
      · cases q
      · cases q
      · cases q
      · rcases hb with ⟨q, -⟩ | ⟨q, -⟩ | ⟨q, -⟩ | ⟨q, -⟩ | ⟨-, e'⟩ | ⟨q, -⟩
        · cases q
        · cases q
        · cases q
        · cases q
        · exact ⟨_, _, e, e', fun _ => rfl, fun _ => rfl⟩
        · cases q
      · cases q
  · cases ht
def rn_ac (w : Bool) (t : Nat) : Nat → Nat → rn_S → Option (List rn_S) := fun _ _ (vs, h, nx, pc, al, st, c, z) => match st with
  | b :: a :: r => match rn_sa a b with
    | none => none
    | some x => some [(vs, h, nx, cond (x == w) t (pc + 3), al, r, c, z)]
  | _ => none
theorem rn_acmpeq {o : Int} {t : Nat} (hd : decode cc pc = .ok (.if_acmp .eq o, 3)) (ht : (pc : Int) + o = (t : Int)) : rn_SS own cc nL hh pc (rn_ac true t) := by
  rintro ⟨p, l, e, R, s, m, args, below, meth, c, D, cA, N0, E, G0, Q⟩ d mc ms ⟨vs, h, nx, pc0, al, st, c0, z0⟩ lS hF hpc hf hk
  cases hpc
  unfold rn_ac at hf
  dsimp only at hf
  rcases st with _ | ⟨b, _ | ⟨a, r⟩⟩
  · cases hf
  · cases hf
  · dsimp only at hf
    cases h3 : rn_sa a b with
    | none => rw [h3] at hf; cases hf
    | some t1 =>
      rw [h3] at hf
      cases hf
      obtain ⟨hx, hb, -⟩ := hF
      intro G ws H locs ls stk hR hL hs
      obtain ⟨v, r1, rfl, g4, g5⟩ := rn_gs.pop hs
      obtain ⟨w, r2, rfl, g6, g7⟩ := rn_gs.pop g5
      obtain ⟨x, y, rfl, rfl, hi⟩ := rn_sa_ok hR.2.2.2.1 hR.2.2.2.2.2.1 g6 g4 h3
      have key := hk _ List.mem_cons_self G ws H locs ls _ hR hL g7
      refine lv_acmp_eq hx hb hd ht (fun z => ?_) (fun z => ?_)
      · have ht1 : t1 = true := hi.mp z
        subst ht1; exact key
      · have ht1 : t1 = false := by
          cases t1 with
          | false => rfl
          | true => exact absurd (hi.mpr rfl) z
        subst ht1; exact key
theorem rn_acmpne {o : Int} {t : Nat} (hd : decode cc pc = .ok (.if_acmp .ne o, 3)) (ht : (pc : Int) + o = (t : Int)) : rn_SS own cc nL hh pc (rn_ac false t) := by
  rintro ⟨p, l, e, R, s, m, args, below, meth, c, D, cA, N0, E, G0, Q⟩ d mc ms ⟨vs, h, nx, pc0, al, st, c0, z0⟩ lS hF hpc hf hk
  cases hpc
  unfold rn_ac at hf
  dsimp only at hf
  rcases st with _ | ⟨b, _ | ⟨a, r⟩⟩
  · cases hf
  · cases hf
  · dsimp only at hf
    cases h3 : rn_sa a b with
    | none => rw [h3] at hf; cases hf
    | some t1 =>
      rw [h3] at hf
      cases hf
      obtain ⟨hx, hb, -⟩ := hF
      intro G ws H locs ls stk hR hL hs
      obtain ⟨v, r1, rfl, g4, g5⟩ := rn_gs.pop hs
      obtain ⟨w, r2, rfl, g6, g7⟩ := rn_gs.pop g5
      obtain ⟨x, y, rfl, rfl, hi⟩ := rn_sa_ok hR.2.2.2.1 hR.2.2.2.2.2.1 g6 g4 h3
      have key := hk _ List.mem_cons_self G ws H locs ls _ hR hL g7
      refine lv_acmp_ne hx hb hd ht (fun z => ?_) (fun z => ?_)
      · have ht1 : t1 = false := by
          cases t1 with
          | false => rfl
          | true => exact absurd (hi.mpr rfl) z
        subst ht1; exact key
      · have ht1 : t1 = true := hi.mp z
        subst ht1; exact key
/-! a switch -/
def rn_sw (lo : Int) (tg : List Nat) (df : Nat) : Nat → Nat → rn_S → Option (List rn_S) := fun _ _ (vs, h, nx, _, al, st, c, z) => match st with
  | a :: r => match a with
    | .inl w => cond (decide (w.1 = w.2)) (some [(vs, h, nx, cond (decide (w.1 < lo)) df (tg.getD (w.1 - lo).toNat df), al, r, c, z)]) none
    | _ => none
  | _ => none
theorem rn_tsw {dflt lo hi : Int} {offs : Array Int} {len : Nat} {tg : List Nat} {df : Nat} (hd : decode cc pc = .ok (.tableswitch dflt lo hi offs, len)) (hdf : (pc : Int) + dflt = (df : Int)) (ht : offs.toList.map (fun o => (pc : Int) + o) = tg.map Int.ofNat) (hn : hi - lo + 1 = (tg.length : Int)) : rn_SS own cc nL hh pc (rn_sw lo tg df) := by
  rintro ⟨p, l, e, R, s, m, args, below, meth, c, D, cA, N0, E, G0, Q⟩ d mc ms ⟨vs, h, nx, pc0, al, st, c0, z0⟩ lS hF hpc hf hk
  cases hpc
  unfold rn_sw at hf
  dsimp only at hf
  rcases st with _ | ⟨a, r⟩
  · cases hf
  · rcases a with w | a
    · dsimp only at hf
      cases hc : decide (w.1 = w.2) with
      | false => rw [hc] at hf; cases hf
      | true =>
        rw [hc] at hf
        cases hf
        have hc := of_decide_eq_true hc
        obtain ⟨hx, hb, -⟩ := hF
        intro G ws H locs ls stk hR hL hs
        obtain ⟨v, r1, rfl, g4, g5⟩ := rn_gs.pop hs
        obtain ⟨x, rfl, a1, a2⟩ := g4
        have ex : w.1 = x.toInt := by omega
        have key := hk _ List.mem_cons_self G ws H locs ls _ hR hL g5
        rw [ex] at key
        by_cases h1 : x.toInt < lo
        · rw [decide_eq_true h1] at key
          exact lv_tableOut hx hb hd (Or.inl h1) hdf key
        · rw [decide_eq_false h1, cond_false] at key
          by_cases h2 : hi < x.toInt
          · have h3 : tg.length ≤ (x.toInt - lo).toNat := by omega
            rw [List.getD_eq_getElem?_getD, List.getElem?_eq_none h3] at key
            exact lv_tableOut hx hb hd (Or.inr h2) hdf key
          · have h3 : (x.toInt - lo).toNat < tg.length := by omega
            have h4 : (tg.map Int.ofNat)[(x.toInt - lo).toNat]? = some ((tg[(x.toInt - lo).toNat] : Nat) : Int) := by
              rw [List.getElem?_map, List.getElem?_eq_getElem h3]; rfl
            rw [← ht, List.getElem?_map] at h4
            cases h5 : offs.toList[(x.toInt - lo).toNat]? with
            | none => rw [h5] at h4; cases h4
            | some off =>
              rw [h5] at h4
              have h6 : (pc0 : Int) + off = ((tg[(x.toInt - lo).toNat] : Nat) : Int) := Option.some.inj h4
              rw [List.getD_eq_getElem?_getD, List.getElem?_eq_getElem h3] at key
              exact lv_tableIn hx hb hd h1 h2 (by rw [← Array.getElem?_toList]; exact h5) h6 key
    · cases hf
end
end RNF
