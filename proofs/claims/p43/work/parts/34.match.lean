section RMA
/-! one state within another, of other variables -/
def rm_get (x : Nat) : List (Nat × List Nat) → Option (List Nat)
  | [] => none
  | q :: l => cond (Nat.beq q.1 x) (some q.2) (rm_get x l)
def rm_v (mp : List (Nat × List Nat)) (f : Nat → Nat) (x : Nat) : Nat := match rm_get x mp with
  | none => f x
  | some m => (m[f x]?).getD 0
/-- what the variables, the long and the time are then -/
def rm_E (mp : List (Nat × List Nat)) (dl : Nat) (E : rn_E) (L0 : Int64) : rn_E := (rm_v mp E.1, fun k => match k with
  | 0 => L0
  | _ => 0, E.2.2.1 + dl, E.2.2.2)
def rm_is (v : Int) (o : Option Int) : Bool := match o with
  | some w => rn_eqI v w
  | none => false
theorem rm_is_ok {v : Int} {o : Option Int} (h : rm_is v o = true) : o = some v := by
  unfold rm_is at h
  cases o with
  | none => cases h
  | some w => rw [rn_eqI_ok h]
def rm_tc (c : Int) (m : List Nat) (t : List Int) : List Nat → Bool
  | [] => true
  | i :: l => (match m[i]? with
    | some k => rm_is c t[k]?
    | none => false) && rm_tc c m t l
theorem rm_tc_ok {c : Int} {m : List Nat} {t : List Int} : ∀ {l : List Nat}, rm_tc c m t l = true → ∀ i ∈ l, t[(m[i]?).getD 0]? = some c
  | [], _, i, hi => by cases hi
  | j :: l, h, i, hi => by
    unfold rm_tc at h
    rw [Bool.and_eq_true] at h
    rcases List.mem_cons.mp hi with e | hi
    · subst e
      have h1 := h.1
      cases hm : m[i]? with
      | none => rw [hm] at h1; cases h1
      | some k => rw [hm] at h1; exact rm_is_ok h1
    · exact rm_tc_ok h.2 i hi
def rm_tt (u : List Int) (m : List Nat) (t : List Int) : List Nat → Bool
  | [] => true
  | i :: l => (match m[i]? with
    | some k => (match u[i]? with
      | some v => rm_is v t[k]?
      | none => false)
    | none => false) && rm_tt u m t l
theorem rm_tt_ok {u : List Int} {m : List Nat} {t : List Int} : ∀ {l : List Nat}, rm_tt u m t l = true → ∀ i ∈ l, ∀ v, u[i]? = some v → t[(m[i]?).getD 0]? = some v
  | [], _, i, hi => by cases hi
  | j :: l, h, i, hi => by
    unfold rm_tt at h
    rw [Bool.and_eq_true] at h
    rcases List.mem_cons.mp hi with e | hi
    · subst e
      intro v hv
      have h1 := h.1
      cases hm : m[i]? with
      | none => rw [hm] at h1; cases h1
      | some k =>
        rw [hm, hv] at h1
        exact rm_is_ok h1
    · exact rm_tt_ok h.2 i hi
def rm_leV (n dl : Nat) (vs : List (List Nat)) (mp : List (Nat × List Nat)) (w0 : Int × List Nat) (a b : rn_V) : Bool := match b with
  | .inl _ => rn_leV vs a b
  | .inr (.inl w) => match rm_get w.1 mp with
    | none => rn_leV vs a b
    | some m => match vs[w.1]? with
      | none => false
      | some l => match a with
        | .inr (.inl v) => Nat.beq v.1 w.1 && rm_tt v.2 m w.2 l
        | .inl r => rn_eqI r.1 r.2 && rm_tc r.1 m w.2 l
        | _ => false
  | .inr (.inr (.inl k)) => Nat.blt k n && rn_leV vs a b
  | .inr (.inr (.inr (.inl _))) => rn_leV vs a b
  | .inr (.inr (.inr (.inr (.inl _)))) => match a with
    | .inr (.inr (.inr (.inr (.inl d)))) => Nat.ble d dl
    | .inl r => decide (0 ≤ r.1) && decide (r.2 ≤ (dl : Int))
    | _ => false
  | .inr (.inr (.inr (.inr (.inr (.inl _))))) => false
  | .inr (.inr (.inr (.inr (.inr (.inr w))))) => match w.2 with
    | [] => rn_eqV a b
    | [0] => rn_eqI w.1 0 && rn_eqV a (.inr (.inr (.inr (.inr (.inr (.inr w0))))))
    | _ => false
theorem rm_leV_ok {n dl : Nat} {vs : List (List Nat)} {mp : List (Nat × List Nat)} {w0 : Int × List Nat} {E : rn_E} {G : rn_G} {L0 : Int64} (hv : rn_okV E vs) (h0 : rn_g E G (.inr (.inr (.inr (.inr (.inr (.inr w0)))))) (.long L0)) {a b : rn_V} (h : rm_leV n dl vs mp w0 a b = true) {u : Value} (hg : rn_g E G a u) : rn_g (rm_E mp dl E L0) (G.1.take n, []) b u := by
  rcases b with b | w | k | k | c | j | w
  · have h : rn_leV vs a (.inl b) = true := h
    exact rn_leV_ok hv h hg
  · unfold rm_leV at h
    dsimp only at h
    cases hm : rm_get w.1 mp with
    | none =>
      rw [hm] at h
      obtain ⟨y, e1, e2⟩ := rn_leV_ok hv h hg
      refine ⟨y, e1, ?_⟩
      show w.2[rm_v mp E.1 w.1]? = _
      unfold rm_v
      rw [hm]
      exact e2
    | some m =>
      rw [hm] at h
      dsimp only at h
      cases hl : vs[w.1]? with
      | none => rw [hl] at h; cases h
      | some l =>
        rw [hl] at h
        dsimp only at h
        have hmem := hv w.1 l hl
        split at h
        · rename_i v
          rw [Bool.and_eq_true] at h
          obtain ⟨y, e1, e2⟩ := hg
          have e := Nat.eq_of_beq_eq_true h.1
          rw [e] at e2
          refine ⟨y, e1, ?_⟩
          show w.2[rm_v mp E.1 w.1]? = _
          unfold rm_v
          rw [hm]
          exact rm_tt_ok h.2 _ hmem _ e2
        · rename_i r
          rw [Bool.and_eq_true] at h
          obtain ⟨y, e1, a1, a2⟩ := hg
          have e := rn_eqI_ok h.1
          refine ⟨y, e1, ?_⟩
          show w.2[rm_v mp E.1 w.1]? = _
          unfold rm_v
          rw [hm]
          have h9 := rm_tc_ok h.2 _ hmem
          rw [show y.toInt = r.1 by omega]
          exact h9
        · cases h
  · have h : (Nat.blt k n && rn_leV vs a (.inr (.inr (.inl k)))) = true := h
    rw [Bool.and_eq_true] at h
    obtain ⟨q, e1, e2⟩ := rn_leV_ok hv h.2 hg
    refine ⟨q, ?_, e2⟩
    have hk : k < n := Nat.le_of_ble_eq_true h.1
    show (G.1.take n)[k]? = some q
    rw [List.getElem?_take_of_lt hk]
    exact e1
  · have h : rn_leV vs a (.inr (.inr (.inr (.inl k)))) = true := h
    have h2 := rn_leV_ok hv h hg
    exact h2
  · unfold rm_leV at h
    dsimp only at h
    split at h
    · rename_i d
      obtain ⟨y, e, a1, a2⟩ := hg
      have h := Nat.le_of_ble_eq_true h
      refine ⟨y, e, a1, ?_⟩
      show y.toInt ≤ ((E.2.2.1 + dl : Nat) : Int) + (c : Int)
      omega
    · rename_i r
      rw [Bool.and_eq_true, decide_eq_true_eq, decide_eq_true_eq] at h
      obtain ⟨y, e, a1, a2⟩ := hg
      refine ⟨y, e, by omega, ?_⟩
      show y.toInt ≤ ((E.2.2.1 + dl : Nat) : Int) + (c : Int)
      omega
    · cases h
  · cases h
  · obtain ⟨w1, w2⟩ := w
    unfold rm_leV at h
    dsimp only at h
    split at h
    · have e := rn_eqV_ok h
      rw [e] at hg
      obtain ⟨y, e1, e2⟩ := hg
      exact ⟨y, e1, e2⟩
    · rw [Bool.and_eq_true] at h
      have e := rn_eqV_ok h.2
      have e3 := rn_eqI_ok h.1
      rw [e] at hg
      obtain ⟨y, f1, f2⟩ := h0
      obtain ⟨y', g1, g2⟩ := hg
      cases f1.symm.trans g1
      cases f2
      refine ⟨Int64.ofInt w0.1 + y, ?_, ?_⟩
      · show (match rn_tm (rm_E mp dl E (Int64.ofInt w0.1 + y)) [] 0, rn_sum (rm_E mp dl E (Int64.ofInt w0.1 + y)) [] [] with
          | some a, some b => some (a + b)
          | _, _ => none) = _
        show some ((Int64.ofInt w0.1 + y) + 0) = _
        rw [Int64.add_zero]
      · rw [g2]
        rw [e3]
        show Value.long _ = Value.long (Int64.ofInt 0 + _)
        rw [show Int64.ofInt 0 = 0 from rfl, Int64.zero_add]
    · cases h
def rm_leL (n dl : Nat) (vs : List (List Nat)) (mp : List (Nat × List Nat)) (w0 : Int × List Nat) : List rn_V → List rn_V → Bool
  | [], [] => true
  | a :: l, b :: m => rm_leV n dl vs mp w0 a b && rm_leL n dl vs mp w0 l m
  | _, _ => false
theorem rm_leL_len {n dl : Nat} {vs : List (List Nat)} {mp : List (Nat × List Nat)} {w0 : Int × List Nat} : ∀ {l m : List rn_V}, rm_leL n dl vs mp w0 l m = true → l.length = m.length
  | [], [], _ => rfl
  | _ :: l, _ :: m, h => by
    unfold rm_leL at h
    rw [Bool.and_eq_true] at h
    rw [List.length_cons, List.length_cons, rm_leL_len h.2]
  | [], _ :: _, h => by cases h
  | _ :: _, [], h => by cases h
theorem rm_leL_at {n dl : Nat} {vs : List (List Nat)} {mp : List (Nat × List Nat)} {w0 : Int × List Nat} : ∀ {l m : List rn_V}, rm_leL n dl vs mp w0 l m = true → ∀ (j : Nat) (b : rn_V), m[j]? = some b → ∃ a, l[j]? = some a ∧ rm_leV n dl vs mp w0 a b = true
  | [], [], _, j, b, hb => by simp at hb
  | a :: l, c :: m, h, 0, b, hb => by
    unfold rm_leL at h
    rw [Bool.and_eq_true] at h
    rw [List.getElem?_cons_zero] at hb
    cases hb
    exact ⟨a, List.getElem?_cons_zero, h.1⟩
  | a :: l, c :: m, h, j + 1, b, hb => by
    unfold rm_leL at h
    rw [Bool.and_eq_true] at h
    rw [List.getElem?_cons_succ] at hb
    obtain ⟨x, h1, h2⟩ := rm_leL_at h.2 j b hb
    exact ⟨x, by rw [List.getElem?_cons_succ]; exact h1, h2⟩
  | [], _ :: _, h, _, _, _ => by cases h
  | _ :: _, [], h, _, _, _ => by cases h
theorem rm_leL_ok {n dl : Nat} {vs : List (List Nat)} {mp : List (Nat × List Nat)} {w0 : Int × List Nat} {E : rn_E} {G : rn_G} {L0 : Int64} (hv : rn_okV E vs) (h0 : rn_g E G (.inr (.inr (.inr (.inr (.inr (.inr w0)))))) (.long L0)) : ∀ {l m : List rn_V} {us : List Value}, rm_leL n dl vs mp w0 l m = true → rn_gs E G l us → rn_gs (rm_E mp dl E L0) (G.1.take n, []) m us
  | [], [], [], _, _ => trivial
  | [], [], _ :: _, _, hg => hg.elim
  | a :: l, b :: m, u :: us, h, hg => by
    unfold rm_leL at h
    rw [Bool.and_eq_true] at h
    exact ⟨rm_leV_ok hv h0 h.1 hg.1, rm_leL_ok hv h0 h.2 hg.2⟩
  | _ :: _, _ :: _, [], _, hg => hg.elim
  | [], _ :: _, _, h, _ => by cases h
  | _ :: _, [], _, h, _ => by cases h
def rm_leC (n dl : Nat) (vs : List (List Nat)) (mp : List (Nat × List Nat)) (w0 : Int × List Nat) (a b : rn_C) : Bool := match a with
  | .inl x => match b with
    | .inl y => Nat.beq x.1 y.1 && rm_leL n dl vs mp w0 x.2 y.2
    | _ => false
  | .inr x => match b with
    | .inr y => Nat.beq x.1 y.1 && rm_leL n dl vs mp w0 x.2 y.2
    | _ => false
theorem rm_leC_ok {n dl : Nat} {vs : List (List Nat)} {mp : List (Nat × List Nat)} {w0 : Int × List Nat} {E : rn_E} {G : rn_G} {L0 : Int64} {cA : Nat → ClassId} (hv : rn_okV E vs) (h0 : rn_g E G (.inr (.inr (.inr (.inr (.inr (.inr w0)))))) (.long L0)) {a b : rn_C} (h : rm_leC n dl vs mp w0 a b = true) {w : va_E} (he : rn_e E G cA a w) : rn_e (rm_E mp dl E L0) (G.1.take n, []) cA b w := by
  rcases a with x | x <;> rcases b with y | y
  · have h : (Nat.beq x.1 y.1 && rm_leL n dl vs mp w0 x.2 y.2) = true := h
    rw [Bool.and_eq_true] at h
    have e := Nat.eq_of_beq_eq_true h.1
    have hat := rm_leL_at h.2
    rcases w with w | w
    · obtain ⟨h1, h2, h3⟩ := he
      refine ⟨by rw [← e]; exact h1, by rw [← rm_leL_len h.2]; exact h2, ?_⟩
      rw [← e]
      revert h3
      generalize w.2.2 = d
      intro h3
      rcases d with f | f | f | f | f
      · exact ⟨h3.1, fun j b hb => by
          obtain ⟨a, g1, g2⟩ := hat j b hb
          exact rm_leV_ok hv h0 g2 (h3.2 j a g1)⟩
      · exact ⟨h3.1, fun j b hb => by
          obtain ⟨a, g1, g2⟩ := hat j b hb
          exact rm_leV_ok hv h0 g2 (h3.2 j a g1)⟩
      · exact h3
      · exact h3
      · exact ⟨h3.1, fun j b hb => by
          obtain ⟨a, g1, g2⟩ := hat j b hb
          exact rm_leV_ok hv h0 g2 (h3.2 j a g1)⟩
    · exact he
  · cases h
  · cases h
  · have h : (Nat.beq x.1 y.1 && rm_leL n dl vs mp w0 x.2 y.2) = true := h
    rw [Bool.and_eq_true] at h
    have e := Nat.eq_of_beq_eq_true h.1
    rcases w with w | w
    · exact he
    · exact ⟨e.symm.trans he.1, rm_leL_ok hv h0 h.2 he.2⟩
/-- the target's things, and what more there is -/
def rm_leH (n dl : Nat) (vs : List (List Nat)) (mp : List (Nat × List Nat)) (w0 : Int × List Nat) : List rn_C → List rn_C → Bool
  | _, [] => true
  | a :: l, b :: m => rm_leC n dl vs mp w0 a b && rm_leH n dl vs mp w0 l m
  | [], _ :: _ => false
theorem rm_leH_at {n dl : Nat} {vs : List (List Nat)} {mp : List (Nat × List Nat)} {w0 : Int × List Nat} : ∀ {l m : List rn_C}, rm_leH n dl vs mp w0 l m = true → m.length ≤ l.length ∧ ∀ (j : Nat) (b : rn_C), m[j]? = some b → ∃ a, l[j]? = some a ∧ rm_leC n dl vs mp w0 a b = true
  | _, [], _ => ⟨Nat.zero_le _, fun j b hb => by simp at hb⟩
  | [], _ :: _, h => by cases h
  | a :: l, c :: m, h => by
    unfold rm_leH at h
    rw [Bool.and_eq_true] at h
    obtain ⟨i1, i2⟩ := rm_leH_at h.2
    refine ⟨Nat.succ_le_succ i1, fun j b hb => ?_⟩
    cases j with
    | zero =>
      rw [List.getElem?_cons_zero] at hb
      cases hb
      exact ⟨a, List.getElem?_cons_zero, h.1⟩
    | succ j =>
      rw [List.getElem?_cons_succ] at hb
      obtain ⟨x, h1, h2⟩ := i2 j b hb
      exact ⟨x, by rw [List.getElem?_cons_succ]; exact h1, h2⟩
theorem rm_leH_ok {dl : Nat} {vs : List (List Nat)} {mp : List (Nat × List Nat)} {w0 : Int × List Nat} {E : rn_E} {G : rn_G} {L0 : Int64} {cA : Nat → ClassId} (hv : rn_okV E vs) (h0 : rn_g E G (.inr (.inr (.inr (.inr (.inr (.inr w0)))))) (.long L0)) {l m : List rn_C} (h : rm_leH m.length dl vs mp w0 l m = true) {ws : va_W} (hw : rn_w E G cA l ws) : rn_w (rm_E mp dl E L0) (G.1.take m.length, []) cA m (ws.take m.length) := by
  obtain ⟨h1, h2⟩ := rm_leH_at h
  refine ⟨by rw [List.length_take, hw.1]; omega, ?_, fun k c w g1 g2 => ?_⟩
  · rw [List.map_take, hw.2.1]
  · obtain ⟨a, g3, g4⟩ := h2 k c g1
    have hk : k < m.length := (List.getElem?_eq_some_iff.mp g1).1
    rw [List.getElem?_take_of_lt hk] at g2
    exact rm_leC_ok hv h0 g4 (hw.2.2 k a w g3 g2)
/-- locals that are wanted -/
def rm_leA (n dl : Nat) (vs : List (List Nat)) (mp : List (Nat × List Nat)) (w0 : Int × List Nat) (al : List (Nat × rn_V)) : List (Nat × rn_V) → Bool
  | [] => true
  | q :: l => (match rn_find q.1 al with
    | some a => rm_leV n dl vs mp w0 a q.2
    | none => false) && rm_leA n dl vs mp w0 al l
theorem rm_leA_ok {n dl : Nat} {vs : List (List Nat)} {mp : List (Nat × List Nat)} {w0 : Int × List Nat} {E : rn_E} {G : rn_G} {L0 : Int64} (hv : rn_okV E vs) (h0 : rn_g E G (.inr (.inr (.inr (.inr (.inr (.inr w0)))))) (.long L0)) {ls : Array Slot} {nL : Nat} {al : List (Nat × rn_V)} (hL : rn_L E G ls nL al) : ∀ {m : List (Nat × rn_V)}, rm_leA n dl vs mp w0 al m = true → rn_L (rm_E mp dl E L0) (G.1.take n, []) ls nL m
  | [], _ => by
    obtain ⟨l, ⟨q1, q2, -⟩, -⟩ := hL
    exact ⟨[], ⟨q1, q2, fun q hq => by cases hq⟩, trivial⟩
  | q :: m, h => by
    unfold rm_leA at h
    rw [Bool.and_eq_true] at h
    obtain ⟨l', ⟨q1, q2, q3⟩, q4⟩ := rm_leA_ok hv h0 hL h.2
    have h1 := h.1
    cases hf : rn_find q.1 al with
    | none => rw [hf] at h1; cases h1
    | some a =>
      rw [hf] at h1
      obtain ⟨v, g1, g2⟩ := hL.at hf
      refine ⟨(q.1, v) :: l', ⟨q1, q2, fun z hz => ?_⟩, rfl, rm_leV_ok hv h0 h1 g2, q4⟩
      rcases List.mem_cons.mp hz with e | e
      · rw [e]; exact g1
      · exact q3 z e
/-- the variables -/
def rm_leW (mp : List (Nat × List Nat)) : Nat → List (List Nat) → List (List Nat) → Bool
  | _, _, [] => true
  | _, [], _ :: _ => false
  | x, a :: l, b :: m => (match rm_get x mp with
    | none => cond (rn_nl a b) true (rn_sub a b)
    | some t => a.all fun i => match t[i]? with
      | some k => b.any fun j => Nat.beq k j
      | none => false) && rm_leW mp (x + 1) l m
theorem rm_leW_ok {mp : List (Nat × List Nat)} : ∀ {v1 v2 : List (List Nat)} {x : Nat} {f : Nat → Nat}, rm_leW mp x v1 v2 = true → (∀ (y : Nat) (l : List Nat), v1[y]? = some l → f (x + y) ∈ l) → ∀ (y : Nat) (l : List Nat), v2[y]? = some l → rm_v mp f (x + y) ∈ l
  | _, [], x, f, _, _, y, l, h => by simp at h
  | [], _ :: _, _, _, h, _, _, _, _ => by cases h
  | a :: v1, b :: v2, x, f, h, hv, 0, l, hl => by
    unfold rm_leW at h
    rw [Bool.and_eq_true] at h
    rw [List.getElem?_cons_zero] at hl
    cases hl
    have h1 := h.1
    have h2 := hv 0 a List.getElem?_cons_zero
    rw [Nat.add_zero] at h2 ⊢
    unfold rm_v
    cases hm : rm_get x mp with
    | none =>
      rw [hm] at h1
      dsimp only at h1 ⊢
      cases hq : rn_nl a b with
      | true => rw [← rn_nl_ok hq]; exact h2
      | false => rw [hq] at h1; exact rn_sub_ok h1 _ h2
    | some t =>
      rw [hm] at h1
      dsimp only at h1 ⊢
      have h3 := List.all_eq_true.mp h1 _ h2
      cases ht : t[f x]? with
      | none => rw [ht] at h3; cases h3
      | some k =>
        rw [ht] at h3
        obtain ⟨j, g1, g2⟩ := List.any_eq_true.mp h3
        rw [← Nat.eq_of_beq_eq_true g2] at g1
        exact g1
  | a :: v1, b :: v2, x, f, h, hv, y + 1, l, hl => by
    unfold rm_leW at h
    rw [Bool.and_eq_true] at h
    rw [List.getElem?_cons_succ] at hl
    have h9 := rm_leW_ok (x := x + 1) (f := f) h.2 (fun z k hz => by
      have h8 := hv (z + 1) k (by rw [List.getElem?_cons_succ]; exact hz)
      rw [show x + (z + 1) = x + 1 + z by omega] at h8
      exact h8) y l hl
    rw [show x + (y + 1) = x + 1 + y by omega]
    exact h9
/-- where the long stands: a thing's field -/
def rm_w0 (h : List rn_C) : Option (Int × List Nat) := match h with
  | .inr (_, [_, _, _, _, _, _, .inr (.inr (.inr (.inr (.inr (.inr w))))), _, _, _]) :: _ => some w
  | _ => none
/-- a state within a target -/
def rm_ok (dl : Nat) (mp : List (Nat × List Nat)) (S T : rn_S) : Bool := match rm_w0 S.2.1 with
  | none => false
  | some w0 => Nat.beq S.2.2.2.1 T.2.2.2.1 && Nat.beq T.2.2.1 0 && (match S.2.2.2.2.2.1 with
    | [] => true
    | _ => false) && (match T.2.2.2.2.2.1 with
    | [] => true
    | _ => false) && Nat.ble S.2.2.2.2.2.2.1 T.2.2.2.2.2.2.1 && Nat.ble S.2.2.2.2.2.2.2 T.2.2.2.2.2.2.2 && rm_leW mp 0 S.1 T.1 && rm_leH T.2.1.length dl S.1 mp w0 S.2.1 T.2.1 && rm_leA T.2.1.length dl S.1 mp w0 S.2.2.2.2.1 T.2.2.2.2.1
theorem rm_W {dl : Nat} {mp : List (Nat × List Nat)} {S T : rn_S} (h : rm_ok dl mp S T = true) {nL : Nat} {p : Program} {l : Launch} {e : Env} {R : Room} {s : State} {m : MethodId} {args : Array Value} {below : List Frame} {meth : Method} {c : Code} {D : va_G} {cA : Nat → ClassId} {N0 : Nat} {E : rn_E} {Q : State → Prop}
    (hk : ∀ L0 : Int64, rn_okV E S.1 → rn_W nL (p, l, e, R, s, m, args, below, meth, c, D, cA, N0, rm_E mp dl E L0, ([], []), Q) T) : rn_W nL (p, l, e, R, s, m, args, below, meth, c, D, cA, N0, E, ([], []), Q) S := by
  obtain ⟨vs, h1, nx, pc, al, st, c1, z1⟩ := S
  obtain ⟨vs2, h2, nx2, pc2, al2, st2, c2, z2⟩ := T
  unfold rm_ok at h
  dsimp only at h
  cases hw0 : rm_w0 h1 with
  | none => rw [hw0] at h; cases h
  | some w0 =>
    rw [hw0] at h
    dsimp only at h
    simp only [Bool.and_eq_true] at h
    obtain ⟨⟨⟨⟨⟨⟨⟨⟨k1, k2⟩, k3⟩, k4⟩, k5⟩, k6⟩, k7⟩, k8⟩, k9⟩ := h
    have k1 := Nat.eq_of_beq_eq_true k1
    have k2 := Nat.eq_of_beq_eq_true k2
    have k5 := Nat.le_of_ble_eq_true k5
    have k6 := Nat.le_of_ble_eq_true k6
    subst k1
    subst k2
    cases st with
    | cons _ _ => cases k3
    | nil =>
      cases st2 with
      | cons _ _ => cases k4
      | nil =>
        intro G ws H locs ls stk hR hL hs
        obtain ⟨q1, q2, q3, q4, q5, q6, q7⟩ := hR
        have q2 : rn_okV E vs := q2
        obtain ⟨L0, hL0⟩ : ∃ L0 : Int64, rn_g E G (.inr (.inr (.inr (.inr (.inr (.inr w0)))))) (.long L0) := by
          unfold rm_w0 at hw0
          split at hw0
          · rename_i kk _ _ _ _ _ _ w _ _ _ tl
            cases hw0
            have hlen : 0 < ws.length := by rw [q4.1]; exact Nat.zero_lt_succ _
            have hws : ws[0]? = some ws[0] := List.getElem?_eq_getElem hlen
            have he := q4.2.2 0 _ _ List.getElem?_cons_zero hws
            rcases hd : (ws[0]).2 with z | z
            · rw [hd] at he; exact he.elim
            · rw [hd] at he
              obtain ⟨u, g1, g2⟩ := rn_gs.at he.2 (k := 6) rfl
              obtain ⟨y, f1, rfl⟩ := g2
              exact ⟨_, y, f1, rfl⟩
          · cases hw0
        have key := hk L0 q2 (G.1.take h2.length, []) (ws.take h2.length) H locs ls stk ⟨⟨⟨_, rfl⟩, ⟨_, rfl⟩⟩, ?_, rfl, rm_leH_ok q2 hL0 k8 q4, ?_, ?_, q7⟩ (rm_leA_ok q2 hL0 hL k9) ?_
        · exact W.widen k5 k6 key
        · intro x l9 hx
          have h9 := rm_leW_ok (x := 0) (f := E.1) k7 (fun y k hy => by rw [Nat.zero_add]; exact q2 y k hy) x l9 hx
          rw [Nat.zero_add] at h9
          exact h9
        · intro k q hk9
          have hlt : k < h2.length := by
            have := (List.getElem?_eq_some_iff.mp hk9).1
            rw [List.length_take] at this
            omega
          rw [List.getElem?_take_of_lt hlt] at hk9
          exact q5 k q hk9
        · have hsub : ∀ {k : Nat} {q : Nat × va_E}, (ws.take h2.length)[k]? = some q → ws[k]? = some q := by
            intro k q hk9
            have hlt : k < h2.length := by
              have := (List.getElem?_eq_some_iff.mp hk9).1
              rw [List.length_take] at this
              omega
            rw [List.getElem?_take_of_lt hlt] at hk9
            exact hk9
          exact ⟨fun i j p9 q9 g1 g2 g3 => q6.1 i j p9 q9 (hsub g1) (hsub g2) g3, fun k q g => q6.2 k q (hsub g)⟩
        · cases stk with
          | nil => trivial
          | cons _ _ => exact hs.elim
end RMA
