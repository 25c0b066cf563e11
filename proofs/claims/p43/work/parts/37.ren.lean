section RNRE
/-! a state's things in another order -/
def ra_ix (k : Nat) : List Nat → Nat → Option Nat
  | [], _ => none
  | a :: l, i => cond (Nat.beq a k) (some i) (ra_ix k l (i + 1))
theorem ra_ix_ok {k : Nat} : ∀ {l : List Nat} {i r : Nat}, ra_ix k l i = some r → ∃ j, r = i + j ∧ l[j]? = some k
  | [], _, _, h => by cases h
  | a :: l, i, r, h => by
    unfold ra_ix at h
    cases hb : Nat.beq a k with
    | true =>
      rw [hb] at h
      cases h
      exact ⟨0, rfl, by rw [List.getElem?_cons_zero, Nat.eq_of_beq_eq_true hb]⟩
    | false =>
      rw [hb] at h
      obtain ⟨j, e1, e2⟩ := ra_ix_ok h
      exact ⟨j + 1, by omega, by rw [List.getElem?_cons_succ]; exact e2⟩
def ra_V (pi : List Nat) (a : rn_V) : Option rn_V := match a with
  | .inr (.inr (.inl k)) => match ra_ix k pi 0 with
    | some i => some (.inr (.inr (.inl i)))
    | none => none
  | a => some a
theorem ra_V_ok {pi : List Nat} {E : rn_E} {G G' : rn_G} (hG2 : G'.2 = G.2) (hG : ∀ (i k : Nat), pi[i]? = some k → G'.1[i]? = G.1[k]?) {a b : rn_V} (h : ra_V pi a = some b) {u : Value} (hg : rn_g E G a u) : rn_g E G' b u := by
  rcases a with a | a | k | a | a | a | a
  · cases h; exact hg
  · cases h; exact hg
  · have h : (match ra_ix k pi 0 with
      | some i => some (.inr (.inr (.inl i)))
      | none => none) = some b := h
    cases hk : ra_ix k pi 0 with
    | none => rw [hk] at h; cases h
    | some i =>
      rw [hk] at h
      cases h
      obtain ⟨j, e1, e2⟩ := ra_ix_ok hk
      obtain ⟨q, f1, f2⟩ := hg
      refine ⟨q, ?_, f2⟩
      rw [show i = j by omega, hG j k e2]
      exact f1
  · cases h; exact hg
  · cases h; exact hg
  · cases h
    obtain ⟨y, e1, e2⟩ := hg
    exact ⟨y, by rw [hG2]; exact e1, e2⟩
  · cases h
    obtain ⟨y, e1, e2⟩ := hg
    exact ⟨y, by rw [hG2]; exact e1, e2⟩
def ra_L (pi : List Nat) : List rn_V → Option (List rn_V)
  | [] => some []
  | a :: l => match ra_V pi a with
    | none => none
    | some b => match ra_L pi l with
      | none => none
      | some m => some (b :: m)
theorem ra_L_at {pi : List Nat} : ∀ {l m : List rn_V}, ra_L pi l = some m → m.length = l.length ∧ ∀ (j : Nat) (b : rn_V), m[j]? = some b → ∃ a, l[j]? = some a ∧ ra_V pi a = some b
  | [], m, h => by
    cases h
    exact ⟨rfl, fun j b hb => by simp at hb⟩
  | a :: l, m, h => by
    unfold ra_L at h
    cases h1 : ra_V pi a with
    | none => rw [h1] at h; cases h
    | some b =>
      cases h2 : ra_L pi l with
      | none => rw [h1, h2] at h; cases h
      | some m2 =>
        rw [h1, h2] at h
        cases h
        obtain ⟨i1, i2⟩ := ra_L_at h2
        refine ⟨by rw [List.length_cons, List.length_cons, i1], fun j b' hb => ?_⟩
        cases j with
        | zero =>
          rw [List.getElem?_cons_zero] at hb
          cases hb
          exact ⟨a, List.getElem?_cons_zero, h1⟩
        | succ j =>
          rw [List.getElem?_cons_succ] at hb
          obtain ⟨x, g1, g2⟩ := i2 j b' hb
          exact ⟨x, by rw [List.getElem?_cons_succ]; exact g1, g2⟩
theorem ra_L_ok {pi : List Nat} {E : rn_E} {G G' : rn_G} (hG2 : G'.2 = G.2) (hG : ∀ (i k : Nat), pi[i]? = some k → G'.1[i]? = G.1[k]?) : ∀ {l m : List rn_V} {us : List Value}, ra_L pi l = some m → rn_gs E G l us → rn_gs E G' m us
  | [], m, us, h, hg => by
    cases h
    cases us with
    | nil => trivial
    | cons _ _ => exact hg.elim
  | a :: l, m, [], h, hg => hg.elim
  | a :: l, m, u :: us, h, hg => by
    unfold ra_L at h
    cases h1 : ra_V pi a with
    | none => rw [h1] at h; cases h
    | some b =>
      cases h2 : ra_L pi l with
      | none => rw [h1, h2] at h; cases h
      | some m2 =>
        rw [h1, h2] at h
        cases h
        exact ⟨ra_V_ok hG2 hG h1 hg.1, ra_L_ok hG2 hG h2 hg.2⟩
def ra_C (pi : List Nat) (c : rn_C) : Option rn_C := match c with
  | .inl x => match ra_L pi x.2 with
    | some m => some (.inl (x.1, m))
    | none => none
  | .inr x => match ra_L pi x.2 with
    | some m => some (.inr (x.1, m))
    | none => none
theorem ra_C_ok {pi : List Nat} {E : rn_E} {G G' : rn_G} {cA : Nat → ClassId} (hG2 : G'.2 = G.2) (hG : ∀ (i k : Nat), pi[i]? = some k → G'.1[i]? = G.1[k]?) {a b : rn_C} (h : ra_C pi a = some b) {w : va_E} (he : rn_e E G cA a w) : rn_e E G' cA b w := by
  unfold ra_C at h
  rcases a with x | x
  · dsimp only at h
    cases h1 : ra_L pi x.2 with
    | none => rw [h1] at h; cases h
    | some m =>
      rw [h1] at h
      cases h
      obtain ⟨i1, i2⟩ := ra_L_at h1
      rcases w with w | w
      · obtain ⟨e1, e2, e3⟩ := he
        refine ⟨e1, by rw [e2]; exact i1.symm, ?_⟩
        revert e3
        generalize w.2.2 = d
        intro e3
        rcases d with f | f | f | f | f
        · exact ⟨e3.1, fun j b hb => by
            obtain ⟨a, g1, g2⟩ := i2 j b hb
            exact ra_V_ok hG2 hG g2 (e3.2 j a g1)⟩
        · exact ⟨e3.1, fun j b hb => by
            obtain ⟨a, g1, g2⟩ := i2 j b hb
            exact ra_V_ok hG2 hG g2 (e3.2 j a g1)⟩
        · exact e3
        · exact e3
        · exact ⟨e3.1, fun j b hb => by
            obtain ⟨a, g1, g2⟩ := i2 j b hb
            exact ra_V_ok hG2 hG g2 (e3.2 j a g1)⟩
      · exact he
  · dsimp only at h
    cases h1 : ra_L pi x.2 with
    | none => rw [h1] at h; cases h
    | some m =>
      rw [h1] at h
      cases h
      rcases w with w | w
      · exact he
      · exact ⟨he.1, ra_L_ok hG2 hG h1 he.2⟩
def ra_H (pi : List Nat) (h : List rn_C) : List Nat → Option (List rn_C)
  | [] => some []
  | k :: l => match h[k]? with
    | none => none
    | some c => match ra_C pi c with
      | none => none
      | some d => match ra_H pi h l with
        | none => none
        | some m => some (d :: m)
theorem ra_H_at {pi : List Nat} {h : List rn_C} : ∀ {l : List Nat} {m : List rn_C}, ra_H pi h l = some m → m.length = l.length ∧ ∀ (j : Nat) (d : rn_C), m[j]? = some d → ∃ k c, l[j]? = some k ∧ h[k]? = some c ∧ ra_C pi c = some d
  | [], m, e => by
    cases e
    exact ⟨rfl, fun j b hb => by simp at hb⟩
  | k :: l, m, e => by
    unfold ra_H at e
    cases h1 : h[k]? with
    | none => rw [h1] at e; cases e
    | some c =>
      rw [h1] at e
      dsimp only at e
      cases h2 : ra_C pi c with
      | none => rw [h2] at e; cases e
      | some d =>
        cases h3 : ra_H pi h l with
        | none => rw [h2, h3] at e; cases e
        | some m2 =>
          rw [h2, h3] at e
          cases e
          obtain ⟨i1, i2⟩ := ra_H_at h3
          refine ⟨by rw [List.length_cons, List.length_cons, i1], fun j b' hb => ?_⟩
          cases j with
          | zero =>
            rw [List.getElem?_cons_zero] at hb
            cases hb
            exact ⟨k, c, List.getElem?_cons_zero, h1, h2⟩
          | succ j =>
            rw [List.getElem?_cons_succ] at hb
            obtain ⟨k9, c9, g1, g2, g3⟩ := i2 j b' hb
            exact ⟨k9, c9, by rw [List.getElem?_cons_succ]; exact g1, g2, g3⟩
def ra_A (pi : List Nat) : List (Nat × rn_V) → Option (List (Nat × rn_V))
  | [] => some []
  | q :: l => match ra_A pi l with
    | none => none
    | some m => match ra_V pi q.2 with
      | none => some m
      | some b => some ((q.1, b) :: m)
theorem ra_A_ok {pi : List Nat} {E : rn_E} {G G' : rn_G} (hG2 : G'.2 = G.2) (hG : ∀ (i k : Nat), pi[i]? = some k → G'.1[i]? = G.1[k]?) : ∀ {al m : List (Nat × rn_V)}, ra_A pi al = some m → ∀ {vs : List (Nat × Value)}, rn_gl E G al vs → ∃ vs', (∀ q ∈ vs', q ∈ vs) ∧ rn_gl E G' m vs'
  | [], m, h, vs, hg => by
    cases h
    exact ⟨[], (fun q hq => nomatch hq), trivial⟩
  | q :: al, m, h, [], hg => hg.elim
  | q :: al, m, h, v :: vs, hg => by
    unfold ra_A at h
    cases h1 : ra_A pi al with
    | none => rw [h1] at h; cases h
    | some m2 =>
      rw [h1] at h
      dsimp only at h
      obtain ⟨vs', i1, i2⟩ := ra_A_ok hG2 hG h1 hg.2.2
      cases h2 : ra_V pi q.2 with
      | none =>
        rw [h2] at h
        cases h
        exact ⟨vs', fun z hz => List.mem_cons_of_mem _ (i1 z hz), i2⟩
      | some b =>
        rw [h2] at h
        cases h
        refine ⟨v :: vs', fun z hz => ?_, hg.1, ra_V_ok hG2 hG h2 hg.2.1, i2⟩
        rcases List.mem_cons.mp hz with e | e
        · rw [e]; exact List.mem_cons_self
        · exact List.mem_cons_of_mem _ (i1 z e)
def ra_nd : List Nat → Bool
  | [] => true
  | a :: l => l.all (fun b => !(Nat.beq a b)) && ra_nd l
theorem ra_nd_ok : ∀ {l : List Nat}, ra_nd l = true → ∀ (i j k : Nat), l[i]? = some k → l[j]? = some k → i = j
  | [], _, i, j, k, h1, _ => by simp at h1
  | a :: l, h, i, j, k, h1, h2 => by
    unfold ra_nd at h
    rw [Bool.and_eq_true] at h
    have ne : ∀ {n : Nat}, l[n]? = some a → False := fun {n} hn => by
      have h9 := List.all_eq_true.mp h.1 a (List.mem_of_getElem? hn)
      rw [show Nat.beq a a = true from Nat.beq_refl a] at h9
      cases h9
    cases i with
    | zero =>
      cases j with
      | zero => rfl
      | succ j =>
        rw [List.getElem?_cons_zero] at h1
        rw [List.getElem?_cons_succ] at h2
        cases h1
        exact (ne h2).elim
    | succ i =>
      cases j with
      | zero =>
        rw [List.getElem?_cons_zero] at h2
        rw [List.getElem?_cons_succ] at h1
        cases h2
        exact (ne h1).elim
      | succ j =>
        rw [List.getElem?_cons_succ] at h1 h2
        rw [ra_nd_ok h.2 i j k h1 h2]
def ra_S (pi : List Nat) (S : rn_S) : Option rn_S := match S.2.2.2.2.2.1 with
  | [] => cond (ra_nd pi) (match ra_H pi S.2.1 pi with
    | none => none
    | some h => match ra_A pi S.2.2.2.2.1 with
      | none => none
      | some al => some (S.1, h, S.2.2.1, S.2.2.2.1, al, [], S.2.2.2.2.2.2)) none
  | _ => none
theorem ra_W {pi : List Nat} {S S' : rn_S} (h : ra_S pi S = some S') {nL : Nat} {p : Program} {l : Launch} {e : Env} {R : Room} {s : State} {m : MethodId} {args : Array Value} {below : List Frame} {meth : Method} {c : Code} {D : va_G} {cA : Nat → ClassId} {N0 : Nat} {E : rn_E} {Q : State → Prop}
    (hk : rn_W nL (p, l, e, R, s, m, args, below, meth, c, D, cA, N0, E, ([], []), Q) S') : rn_W nL (p, l, e, R, s, m, args, below, meth, c, D, cA, N0, E, ([], []), Q) S := by
  obtain ⟨vs, h1, nx, pc, al, st, c1, z1⟩ := S
  unfold ra_S at h
  dsimp only at h
  cases st with
  | cons _ _ => cases h
  | nil =>
    dsimp only at h
    cases hnd : ra_nd pi with
    | false => rw [hnd] at h; cases h
    | true =>
      rw [hnd, cond_true] at h
      cases hH : ra_H pi h1 pi with
      | none => rw [hH] at h; cases h
      | some h2 =>
        rw [hH] at h
        dsimp only at h
        cases hA : ra_A pi al with
        | none => rw [hA] at h; cases h
        | some al2 =>
          rw [hA] at h
          cases h
          obtain ⟨i1, i2⟩ := ra_H_at hH
          intro G ws H locs ls stk hR hL hs
          obtain ⟨q1, q2, q3, q4, q5, q6, q7⟩ := hR
          have hlt : ∀ (i k : Nat), pi[i]? = some k → ∃ w, ws[k]? = some w := by
            intro i k hi
            have hi9 : i < h2.length := by rw [i1]; exact (List.getElem?_eq_some_iff.mp hi).1
            obtain ⟨k9, c9, g1, g2, -⟩ := i2 i h2[i] (List.getElem?_eq_getElem hi9)
            rw [hi] at g1
            cases g1
            have hk9 : k < ws.length := by rw [q4.1]; exact (List.getElem?_eq_some_iff.mp g2).1
            exact ⟨_, List.getElem?_eq_getElem hk9⟩
          have hw2 : ∀ (i k : Nat), pi[i]? = some k → (pi.map fun k => (ws[k]?).getD (0, .inr (0, [])))[i]? = ws[k]? := by
            intro i k hi
            obtain ⟨w, hw⟩ := hlt i k hi
            rw [List.getElem?_map, hi, hw]
            show some ((ws[k]?).getD _) = _
            rw [hw]
            rfl
          have hw3 : ∀ (i : Nat) (w : Nat × va_E), (pi.map fun k => (ws[k]?).getD (0, .inr (0, [])))[i]? = some w → ∃ k, pi[i]? = some k ∧ ws[k]? = some w := by
            intro i w hi
            have hi9 := hi
            rw [List.getElem?_map] at hi
            cases hp : pi[i]? with
            | none => rw [hp] at hi; cases hi
            | some k => exact ⟨k, rfl, by rw [← hw2 i k hp]; exact hi9⟩
          have hG : ∀ (i k : Nat), pi[i]? = some k → ((pi.map fun k => (ws[k]?).getD (0, .inr (0, []))).map fun q => q.1)[i]? = G.1[k]? := by
            intro i k hi
            rw [List.getElem?_map, hw2 i k hi, ← q4.2.1, List.getElem?_map]
          obtain ⟨l0, ⟨r1, r2, r3⟩, r4⟩ := hL
          obtain ⟨l2, t1, t2⟩ := ra_A_ok (G := G) (E := E) (G' := ((pi.map fun k => (ws[k]?).getD (0, .inr (0, []))).map fun q => q.1, G.2)) rfl hG hA r4
          refine hk ((pi.map fun k => (ws[k]?).getD (0, .inr (0, []))).map fun q => q.1, G.2) (pi.map fun k => (ws[k]?).getD (0, .inr (0, []))) H locs ls stk ⟨⟨⟨_, rfl⟩, ⟨_, rfl⟩⟩, q2, q3, ⟨by rw [List.length_map, i1], rfl, fun k c w g1 g2 => ?_⟩, fun k q hq => ?_, ⟨fun i j p9 q9 g1 g2 g3 => ?_, fun k q hq => ?_⟩, q7⟩ ⟨l2, ⟨r1, r2, fun q hq => r3 q (t1 q hq)⟩, t2⟩ ?_
          · obtain ⟨k9, c9, f1, f2, f3⟩ := i2 k c g1
            rw [hw2 k k9 f1] at g2
            exact ra_C_ok (G := G) (G' := ((pi.map fun k => (ws[k]?).getD (0, .inr (0, []))).map fun q => q.1, G.2)) rfl hG f3 (q4.2.2 k9 c9 w f2 g2)
          · obtain ⟨k9, f1, f2⟩ := hw3 k q hq
            exact q5 k9 q f2
          · obtain ⟨k9, f1, f2⟩ := hw3 i p9 g1
            obtain ⟨k8, f3, f4⟩ := hw3 j q9 g2
            have e9 := q6.1 k9 k8 p9 q9 f2 f4 g3
            rw [e9] at f1
            exact ra_nd_ok hnd i j k8 f1 f3
          · obtain ⟨k9, f1, f2⟩ := hw3 k q hq
            exact q6.2 k9 q f2
          · cases stk with
            | nil => trivial
            | cons _ _ => exact hs.elim
end RNRE
