/-! THE RUNNER: a machine over abstract values, of which one theorem says that the machine itself follows it. What a method does is then found by running it. -/
section RNA
/-- abstract values: an int between two bounds; an int out of a table, by a variable; a thing of the world; (0) null, (1) some reference, (2) the script, (3) some long, (4) the empty row of ArrayList, (5) some long but 0; a time, from 0 to T + c; a named int; a sum of longs -/
abbrev rn_V : Type := (Int × Int) ⊕ (Nat × List Int) ⊕ Nat ⊕ Nat ⊕ Nat ⊕ Nat ⊕ (Int × List Nat)
/-- a thing: an array (kind, what it holds), or an object (its kind, its fields) -/
abbrev rn_C : Type := (Nat × List rn_V) ⊕ (Nat × List rn_V)
/-- what stands from the start: variables, longs, the bound of time, the script, the empty row -/
abbrev rn_E : Type := (Nat → Nat) × (Nat → Int64) × Nat × Nat × Nat
/-- what grows: addresses, named ints -/
abbrev rn_G : Type := List Nat × List Int32
def rn_tm (E : rn_E) (io : List Int32) (t : Nat) : Option Int64 :=
  if t % 4 = 0 then some (E.2.1 (t / 4)) else if t % 4 = 1 then some (-(E.2.1 (t / 4))) else if t % 4 = 2 then (io[t / 4]?).map (fun x => x.toInt64) else (io[t / 4]?).map (fun x => -x.toInt64)
def rn_sum (E : rn_E) (io : List Int32) : List Nat → Option Int64
  | [] => some 0
  | t :: ts => match rn_tm E io t, rn_sum E io ts with
    | some a, some b => some (a + b)
    | _, _ => none
def rn_g (E : rn_E) (G : rn_G) (a : rn_V) (u : Value) : Prop := match a with
  | .inl r => ∃ y : Int32, u = .int y ∧ r.1 ≤ y.toInt ∧ y.toInt ≤ r.2
  | .inr (.inl w) => ∃ y : Int32, u = .int y ∧ w.2[E.1 w.1]? = some y.toInt
  | .inr (.inr (.inl k)) => ∃ q, G.1[k]? = some q ∧ u = .ref q
  | .inr (.inr (.inr (.inl k))) => (k = 0 ∧ u = .null) ∨ (k = 1 ∧ ∃ q, u = .ref q) ∨ (k = 2 ∧ u = .ref E.2.2.2.1) ∨ (k = 3 ∧ ∃ y, u = .long y) ∨ (k = 4 ∧ u = .ref E.2.2.2.2) ∨ (k = 5 ∧ ∃ y : Int64, u = .long y ∧ ¬ y = 0)
  | .inr (.inr (.inr (.inr (.inl c)))) => ∃ y : Int32, u = .int y ∧ 0 ≤ y.toInt ∧ y.toInt ≤ (E.2.2.1 : Int) + c
  | .inr (.inr (.inr (.inr (.inr (.inl j))))) => ∃ y : Int32, G.2[j]? = some y ∧ u = .int y
  | .inr (.inr (.inr (.inr (.inr (.inr w))))) => ∃ y : Int64, rn_sum E G.2 w.2 = some y ∧ u = .long (Int64.ofInt w.1 + y)
def rn_ext (G G' : rn_G) : Prop := (∃ r, G'.1 = G.1 ++ r) ∧ ∃ n, G'.2 = G.2 ++ n
theorem rn_ext.rf {G : rn_G} : rn_ext G G := ⟨⟨[], by simp⟩, ⟨[], by simp⟩⟩
theorem rn_ext.tr {G G' G'' : rn_G} (h : rn_ext G G') (h' : rn_ext G' G'') : rn_ext G G'' := by
  obtain ⟨⟨r, e⟩, ⟨n, f⟩⟩ := h
  obtain ⟨⟨r', e'⟩, ⟨n', f'⟩⟩ := h'
  exact ⟨⟨r ++ r', by rw [e', e, List.append_assoc]⟩, ⟨n ++ n', by rw [f', f, List.append_assoc]⟩⟩
theorem rn_pre {α : Type} {a b r : List α} (e : b = a ++ r) {k : Nat} {x : α} (h : a[k]? = some x) : b[k]? = some x := by
  have hl := (List.getElem?_eq_some_iff.mp h).1
  rw [e, List.getElem?_append_left hl, h]
theorem rn_tm_ext {E : rn_E} {a b r : List Int32} (e : b = a ++ r) {t : Nat} {x : Int64} (h : rn_tm E a t = some x) : rn_tm E b t = some x := by
  unfold rn_tm at h ⊢
  split
  · rename_i h0; rw [if_pos h0] at h; exact h
  · rename_i h0; rw [if_neg h0] at h
    split
    · rename_i h1; rw [if_pos h1] at h; exact h
    · rename_i h1; rw [if_neg h1] at h
      split
      · rename_i h2; rw [if_pos h2] at h
        cases hk : a[t / 4]? with
        | none => rw [hk] at h; cases h
        | some y => rw [hk] at h; rw [rn_pre e hk]; exact h
      · rename_i h2; rw [if_neg h2] at h
        cases hk : a[t / 4]? with
        | none => rw [hk] at h; cases h
        | some y => rw [hk] at h; rw [rn_pre e hk]; exact h
theorem rn_sum_ext {E : rn_E} {a b r : List Int32} (e : b = a ++ r) : ∀ (ts : List Nat) (x : Int64), rn_sum E a ts = some x → rn_sum E b ts = some x
  | [], x, h => h
  | t :: ts, x, h => by
    unfold rn_sum at h ⊢
    cases h1 : rn_tm E a t with
    | none => rw [h1] at h; cases h
    | some y =>
      cases h2 : rn_sum E a ts with
      | none => rw [h1, h2] at h; cases h
      | some z =>
        rw [h1, h2] at h
        rw [rn_tm_ext e h1, rn_sum_ext e ts z h2]
        exact h
theorem rn_g.ext {E : rn_E} {G G' : rn_G} (h : rn_ext G G') {a : rn_V} {u : Value} (hg : rn_g E G a u) : rn_g E G' a u := by
  obtain ⟨⟨r, e⟩, ⟨n, f⟩⟩ := h
  rcases a with a | a | a | a | a | a | a
  · exact hg
  · exact hg
  · obtain ⟨q, h1, h2⟩ := hg
    exact ⟨q, rn_pre e h1, h2⟩
  · exact hg
  · exact hg
  · obtain ⟨y, h1, h2⟩ := hg
    exact ⟨y, rn_pre f h1, h2⟩
  · obtain ⟨y, h1, h2⟩ := hg
    exact ⟨y, rn_sum_ext f _ _ h1, h2⟩
def rn_gs (E : rn_E) (G : rn_G) : List rn_V → List Value → Prop
  | [], [] => True
  | a :: as, v :: vs => rn_g E G a v ∧ rn_gs E G as vs
  | _, _ => False
theorem rn_gs.ext {E : rn_E} {G G' : rn_G} (h : rn_ext G G') : ∀ {as : List rn_V} {vs : List Value}, rn_gs E G as vs → rn_gs E G' as vs
  | [], [], _ => trivial
  | _ :: _, _ :: _, hg => ⟨hg.1.ext h, rn_gs.ext h hg.2⟩
  | [], _ :: _, hg => hg
  | _ :: _, [], hg => hg
theorem rn_gs.len {E : rn_E} {G : rn_G} : ∀ {as : List rn_V} {vs : List Value}, rn_gs E G as vs → vs.length = as.length
  | [], [], _ => rfl
  | _ :: _, _ :: _, hg => by rw [List.length_cons, List.length_cons, rn_gs.len hg.2]
  | [], _ :: _, hg => hg.elim
  | _ :: _, [], hg => hg.elim
theorem rn_gs.at {E : rn_E} {G : rn_G} : ∀ {as : List rn_V} {vs : List Value} (_ : rn_gs E G as vs) {k : Nat} {a : rn_V}, as[k]? = some a → ∃ v, vs[k]? = some v ∧ rn_g E G a v
  | [], [], _, k, a, h => by simp at h
  | b :: as, v :: vs, hg, 0, a, h => by
    rw [List.getElem?_cons_zero] at h
    cases h
    exact ⟨v, List.getElem?_cons_zero, hg.1⟩
  | b :: as, v :: vs, hg, k + 1, a, h => by
    rw [List.getElem?_cons_succ] at h
    obtain ⟨w, h1, h2⟩ := rn_gs.at hg.2 h
    exact ⟨w, by rw [List.getElem?_cons_succ]; exact h1, h2⟩
  | [], _ :: _, hg, _, _, _ => hg.elim
  | _ :: _, [], hg, _, _, _ => hg.elim
theorem rn_gs.set {E : rn_E} {G : rn_G} {a : rn_V} {v : Value} (ha : rn_g E G a v) : ∀ {as : List rn_V} {vs : List Value} (_ : rn_gs E G as vs) (k : Nat), rn_gs E G (as.set k a) (vs.set k v)
  | [], [], _, k => by simp [rn_gs]
  | _ :: _, _ :: _, hg, 0 => ⟨ha, hg.2⟩
  | _ :: _, _ :: _, hg, k + 1 => ⟨hg.1, rn_gs.set ha hg.2 k⟩
  | [], _ :: _, hg, _ => hg.elim
  | _ :: _, [], hg, _ => hg.elim
theorem rn_gs.app {E : rn_E} {G : rn_G} : ∀ {as bs : List rn_V} {vs ws : List Value}, rn_gs E G as vs → rn_gs E G bs ws → rn_gs E G (as ++ bs) (vs ++ ws)
  | [], _, [], _, _, hb => hb
  | _ :: _, _, _ :: _, _, ha, hb => ⟨ha.1, rn_gs.app ha.2 hb⟩
  | [], _, _ :: _, _, ha, _ => ha.elim
  | _ :: _, _, [], _, ha, _ => ha.elim
theorem rn_gs.rev {E : rn_E} {G : rn_G} : ∀ {as : List rn_V} {vs : List Value}, rn_gs E G as vs → rn_gs E G as.reverse vs.reverse
  | [], [], _ => trivial
  | _ :: _, _ :: _, hg => by
    rw [List.reverse_cons, List.reverse_cons]
    exact rn_gs.app (rn_gs.rev hg.2) ⟨hg.1, trivial⟩
  | [], _ :: _, hg => hg.elim
  | _ :: _, [], hg => hg.elim
/-- a stack's first n, and the rest -/
theorem rn_gs.cut {E : rn_E} {G : rn_G} : ∀ (n : Nat) {as : List rn_V} {vs : List Value}, rn_gs E G as vs → rn_gs E G (as.take n) (vs.take n) ∧ rn_gs E G (as.drop n) (vs.drop n)
  | 0, _, _, h => ⟨trivial, h⟩
  | _ + 1, [], [], _ => ⟨trivial, trivial⟩
  | n + 1, _ :: _, _ :: _, h => ⟨⟨h.1, (rn_gs.cut n h.2).1⟩, (rn_gs.cut n h.2).2⟩
  | _ + 1, [], _ :: _, h => h.elim
  | _ + 1, _ :: _, [], h => h.elim
def rn_gl (E : rn_E) (G : rn_G) : List (Nat × rn_V) → List (Nat × Value) → Prop
  | [], [] => True
  | a :: as, v :: vs => a.1 = v.1 ∧ rn_g E G a.2 v.2 ∧ rn_gl E G as vs
  | _, _ => False
theorem rn_gl.ext {E : rn_E} {G G' : rn_G} (h : rn_ext G G') : ∀ {as : List (Nat × rn_V)} {vs : List (Nat × Value)}, rn_gl E G as vs → rn_gl E G' as vs
  | [], [], _ => trivial
  | _ :: _, _ :: _, hg => ⟨hg.1, hg.2.1.ext h, rn_gl.ext h hg.2.2⟩
  | [], _ :: _, hg => hg
  | _ :: _, [], hg => hg
def rn_find (i : Nat) : List (Nat × rn_V) → Option rn_V
  | [] => none
  | a :: as => cond (Nat.beq a.1 i) (some a.2) (rn_find i as)
theorem rn_gl.at {E : rn_E} {G : rn_G} {i : Nat} {b : rn_V} : ∀ {as : List (Nat × rn_V)} {vs : List (Nat × Value)}, rn_gl E G as vs → rn_find i as = some b → ∃ v, (i, v) ∈ vs ∧ rn_g E G b v
  | [], [], _, h => by cases h
  | a :: as, v :: vs, hg, h => by
    unfold rn_find at h
    cases hb : Nat.beq a.1 i with
    | true =>
      rw [hb] at h
      cases h
      have e : a.1 = i := Nat.eq_of_beq_eq_true hb
      refine ⟨v.2, ?_, hg.2.1⟩
      rw [← e, hg.1]
      exact List.mem_cons_self
    | false =>
      rw [hb] at h
      obtain ⟨w, h1, h2⟩ := rn_gl.at hg.2.2 h
      exact ⟨w, List.mem_cons_of_mem _ h1, h2⟩
  | [], _ :: _, hg, _ => hg.elim
  | _ :: _, [], hg, _ => hg.elim
/-- how many words a value takes -/
def rn_cat (a : rn_V) : Nat := match a with
  | .inr (.inr (.inr (.inl k))) => cond (Nat.beq k 3 || Nat.beq k 5) 2 1
  | .inr (.inr (.inr (.inr (.inr (.inr _))))) => 2
  | _ => 1
theorem rn_g.cat {E : rn_E} {G : rn_G} {a : rn_V} {u : Value} (h : rn_g E G a u) : u.category = rn_cat a := by
  rcases a with a | a | a | a | a | a | a
  · obtain ⟨y, rfl, -⟩ := h; rfl
  · obtain ⟨y, rfl, -⟩ := h; rfl
  · obtain ⟨y, -, rfl⟩ := h; rfl
  · rcases h with ⟨rfl, rfl⟩ | ⟨rfl, q, rfl⟩ | ⟨rfl, rfl⟩ | ⟨rfl, q, rfl⟩ | ⟨rfl, rfl⟩ | ⟨rfl, q, rfl, -⟩ <;> rfl
  · obtain ⟨y, rfl, -⟩ := h; rfl
  · obtain ⟨y, -, rfl⟩ := h; rfl
  · obtain ⟨y, -, rfl⟩ := h; rfl
theorem rn_gs.cats {E : rn_E} {G : rn_G} : ∀ {as : List rn_V} {vs : List Value}, rn_gs E G as vs → (vs.map fun v => v.category).sum = (as.map rn_cat).sum
  | [], [], _ => rfl
  | a :: as, v :: vs, h => by
    rw [List.map_cons, List.map_cons, List.sum_cons, List.sum_cons, rn_gs.cats h.2, h.1.cat]
  | [], _ :: _, h => h.elim
  | _ :: _, [], h => h.elim
/-- a store into local i of a value of one word, or two -/
def rn_st1 (i : Nat) (a : rn_V) (l : List (Nat × rn_V)) : List (Nat × rn_V) := (i, a) :: l.filter (fun q => !(q.1 == i) && !(q.1 + 1 == i && rn_cat q.2 == 2))
def rn_st2 (i : Nat) (a : rn_V) (l : List (Nat × rn_V)) : List (Nat × rn_V) := (i, a) :: l.filter (fun q => !(q.1 == i) && (!(q.1 == i + 1) && !(q.1 + 1 == i && rn_cat q.2 == 2)))
theorem rn_gl.fil {E : rn_E} {G : rn_G} (P : Nat → Nat → Bool) : ∀ {as : List (Nat × rn_V)} {vs : List (Nat × Value)}, rn_gl E G as vs → rn_gl E G (as.filter (fun q => P q.1 (rn_cat q.2))) (vs.filter (fun q => P q.1 q.2.category))
  | [], [], _ => trivial
  | a :: as, v :: vs, hg => by
    have e : P v.1 v.2.category = P a.1 (rn_cat a.2) := by rw [hg.1, hg.2.1.cat]
    rw [List.filter_cons, List.filter_cons, e]
    cases P a.1 (rn_cat a.2) with
    | true => exact ⟨hg.1, hg.2.1, rn_gl.fil P hg.2.2⟩
    | false => exact rn_gl.fil P hg.2.2
  | [], _ :: _, hg => hg.elim
  | _ :: _, [], hg => hg.elim
theorem rn_gl.st1 {E : rn_E} {G : rn_G} {as : List (Nat × rn_V)} {vs : List (Nat × Value)} (h : rn_gl E G as vs) (i : Nat) {a : rn_V} {v : Value} (ha : rn_g E G a v) : rn_gl E G (rn_st1 i a as) ((i, v) :: vs.filter (fun q => !(q.1 == i) && !(q.1 + 1 == i && q.2.category == 2))) :=
  ⟨rfl, ha, rn_gl.fil (fun j w => !(j == i) && !(j + 1 == i && w == 2)) h⟩
theorem rn_gl.st2 {E : rn_E} {G : rn_G} {as : List (Nat × rn_V)} {vs : List (Nat × Value)} (h : rn_gl E G as vs) (i : Nat) {a : rn_V} {v : Value} (ha : rn_g E G a v) : rn_gl E G (rn_st2 i a as) ((i, v) :: vs.filter (fun q => !(q.1 == i) && (!(q.1 == i + 1) && !(q.1 + 1 == i && q.2.category == 2)))) :=
  ⟨rfl, ha, rn_gl.fil (fun j w => !(j == i) && (!(j == i + 1) && !(j + 1 == i && w == 2))) h⟩
/-- the locals -/
def rn_L (E : rn_E) (G : rn_G) (ls : Array Slot) (nL : Nat) (al : List (Nat × rn_V)) : Prop := ∃ l, lv_has ls nL l ∧ rn_gl E G al l
/-- an array's data: kinds 0 int, 1 long, 2 boolean, 3 objects -/
def rn_arr (E : rn_E) (G : rn_G) (k : Nat) (as : List rn_V) (d : (Nat → Int32) ⊕ (Nat → Int64) ⊕ (Nat → UInt32) ⊕ (Nat → UInt64) ⊕ (Nat → Option Nat)) : Prop := match d with
  | .inl f => (k = 0 ∨ k = 2) ∧ ∀ (j : Nat) (a : rn_V), as[j]? = some a → rn_g E G a (.int (f j))
  | .inr (.inl f) => k = 1 ∧ ∀ (j : Nat) (a : rn_V), as[j]? = some a → rn_g E G a (.long (f j))
  | .inr (.inr (.inr (.inr f))) => k = 3 ∧ ∀ (j : Nat) (a : rn_V), as[j]? = some a → rn_g E G a (va_rf (f j))
  | _ => False
def rn_e (E : rn_E) (G : rn_G) (cA : Nat → ClassId) : rn_C → va_E → Prop
  | .inr o, .inr w => o.1 = w.1 ∧ rn_gs E G o.2 w.2
  | .inl a, .inl w => w.1 = cA a.1 ∧ w.2.1 = a.2.length ∧ rn_arr E G a.1 a.2 w.2.2
  | _, _ => False
theorem rn_e.ext {E : rn_E} {G G' : rn_G} (h : rn_ext G G') {cA : Nat → ClassId} {c : rn_C} {w : va_E} (he : rn_e E G cA c w) : rn_e E G' cA c w := by
  rcases c with c | c <;> rcases w with w | w
  · refine ⟨he.1, he.2.1, ?_⟩
    have h3 := he.2.2
    revert h3
    generalize w.2.2 = d
    intro h3
    rcases d with f | f | f | f | f
    · exact ⟨h3.1, fun j a hj => (h3.2 j a hj).ext h⟩
    · exact ⟨h3.1, fun j a hj => (h3.2 j a hj).ext h⟩
    · exact h3
    · exact h3
    · exact ⟨h3.1, fun j a hj => (h3.2 j a hj).ext h⟩
  · exact he
  · exact he
  · exact ⟨he.1, rn_gs.ext h he.2⟩
/-- the world -/
def rn_w (E : rn_E) (G : rn_G) (cA : Nat → ClassId) (h : List rn_C) (ws : va_W) : Prop := ws.length = h.length ∧ ws.map (fun q => q.1) = G.1 ∧ ∀ (k : Nat) (c : rn_C) (w : Nat × va_E), h[k]? = some c → ws[k]? = some w → rn_e E G cA c w.2
theorem rn_w.at {E : rn_E} {G : rn_G} {cA : Nat → ClassId} {h : List rn_C} {ws : va_W} (hw : rn_w E G cA h ws) {k q : Nat} (hq : G.1[k]? = some q) {c : rn_C} (hc : h[k]? = some c) : ∃ w, ws[k]? = some (q, w) ∧ rn_e E G cA c w := by
  have hl := (List.getElem?_eq_some_iff.mp hc).1
  have hl2 : k < ws.length := by rw [hw.1]; exact hl
  have h1 : ws[k]? = some ws[k] := List.getElem?_eq_getElem hl2
  have h2 : (ws.map (fun q => q.1))[k]? = some (ws[k]).1 := by rw [List.getElem?_map, h1]; rfl
  rw [hw.2.1, hq] at h2
  refine ⟨(ws[k]).2, ?_, hw.2.2 k c _ hc h1⟩
  rw [h1, Option.some.inj h2]
theorem rn_w.set {E : rn_E} {G : rn_G} {cA : Nat → ClassId} {h : List rn_C} {ws : va_W} (hw : rn_w E G cA h ws) {k q : Nat} {w0 w : va_E} {c : rn_C} (hq : ws[k]? = some (q, w0)) (hc : rn_e E G cA c w) : rn_w E G cA (h.set k c) (ws.set k (q, w)) := by
  refine ⟨by rw [List.length_set, List.length_set]; exact hw.1, ?_, ?_⟩
  · rw [← hw.2.1]
    apply List.ext_getElem?
    intro i
    rw [List.getElem?_map, List.getElem?_map]
    by_cases e : i = k
    · subst e
      rw [List.getElem?_set_self (List.getElem?_eq_some_iff.mp hq).1, hq]
      rfl
    · rw [List.getElem?_set_ne (Ne.symm e)]
  · intro i c' w' h1 h2
    by_cases e : i = k
    · subst e
      rw [List.getElem?_set_self (List.getElem?_eq_some_iff.mp hq).1] at h2
      have hl : i < h.length := by rw [← hw.1]; exact (List.getElem?_eq_some_iff.mp hq).1
      rw [List.getElem?_set_self hl] at h1
      cases h1; cases h2
      exact hc
    · rw [List.getElem?_set_ne (Ne.symm e)] at h1 h2
      exact hw.2.2 i c' w' h1 h2
theorem rn_w.ext {E : rn_E} {G : rn_G} {cA : Nat → ClassId} {h : List rn_C} {ws : va_W} (hw : rn_w E G cA h ws) {io : List Int32} (he : ∃ n, io = G.2 ++ n) : rn_w E (G.1, io) cA h ws :=
  ⟨hw.1, hw.2.1, fun k c w h1 h2 => (hw.2.2 k c w h1 h2).ext ⟨⟨[], by simp⟩, he⟩⟩
theorem rn_w.push {E : rn_E} {G : rn_G} {cA : Nat → ClassId} {h : List rn_C} {ws : va_W} (hw : rn_w E G cA h ws) {q : Nat} {w : va_E} {c : rn_C} (hc : rn_e E (G.1 ++ [q], G.2) cA c w) : rn_w E (G.1 ++ [q], G.2) cA (h ++ [c]) (ws ++ [(q, w)]) := by
  have hx : rn_ext G (G.1 ++ [q], G.2) := ⟨⟨[q], rfl⟩, ⟨[], by simp⟩⟩
  refine ⟨by simp [hw.1], by simp [hw.2.1], ?_⟩
  intro i c' w' h1 h2
  by_cases hl : i < ws.length
  · rw [List.getElem?_append_left hl] at h2
    rw [List.getElem?_append_left (by rw [← hw.1]; exact hl)] at h1
    exact (hw.2.2 i c' w' h1 h2).ext hx
  · rw [List.getElem?_append_right (by omega)] at h2
    rw [List.getElem?_append_right (by rw [← hw.1]; omega)] at h1
    have hz : i - ws.length < 1 := (List.getElem?_eq_some_iff.mp h2).1
    have h0 : i = ws.length := by omega
    subst h0
    rw [Nat.sub_self] at h2
    rw [hw.1, Nat.sub_self] at h1
    cases h1; cases h2
    exact hc
theorem rn_w.lenG {E : rn_E} {G : rn_G} {cA : Nat → ClassId} {h : List rn_C} {ws : va_W} (hw : rn_w E G cA h ws) : G.1.length = h.length := by
  rw [← hw.2.1, List.length_map, hw.1]
end RNA
