section RND
def rn_okV (E : rn_E) (vs : List (List Nat)) : Prop := ∀ (x : Nat) (l : List Nat), vs[x]? = some l → E.1 x ∈ l
def rn_mm (t : List Int) : List Nat → Int → Int → Option (Int × Int)
  | [], lo, hi => some (lo, hi)
  | i :: is, lo, hi => match t[i]? with
    | none => none
    | some v => rn_mm t is (cond (decide (v < lo)) v lo) (cond (decide (hi < v)) v hi)
theorem rn_mm_ok {t : List Int} : ∀ {is : List Nat} {lo hi : Int} {r : Int × Int}, rn_mm t is lo hi = some r → r.1 ≤ lo ∧ hi ≤ r.2 ∧ ∀ i ∈ is, ∃ v, t[i]? = some v ∧ r.1 ≤ v ∧ v ≤ r.2
  | [], lo, hi, r, h => by
    cases h
    exact ⟨Int.le_refl _, Int.le_refl _, fun i hi => by cases hi⟩
  | j :: is, lo, hi, r, h => by
    unfold rn_mm at h
    cases hj : t[j]? with
    | none => rw [hj] at h; cases h
    | some v =>
      rw [hj] at h
      dsimp only at h
      obtain ⟨h1, h2, h3⟩ := rn_mm_ok h
      have a1 : r.1 ≤ lo ∧ r.1 ≤ v := by
        by_cases q : v < lo
        · rw [decide_eq_true q] at h1
          have h1 : r.1 ≤ v := h1
          omega
        · rw [decide_eq_false q] at h1
          have h1 : r.1 ≤ lo := h1
          omega
      have a2 : hi ≤ r.2 ∧ v ≤ r.2 := by
        by_cases q : hi < v
        · rw [decide_eq_true q] at h2
          have h2 : v ≤ r.2 := h2
          omega
        · rw [decide_eq_false q] at h2
          have h2 : hi ≤ r.2 := h2
          omega
      refine ⟨a1.1, a2.1, fun i hi => ?_⟩
      rcases List.mem_cons.mp hi with e | e
      · subst e; exact ⟨v, hj, a1.2, a2.2⟩
      · exact h3 i e
/-- between which bounds an int lies -/
def rn_hull (vs : List (List Nat)) (a : rn_V) : Option (Int × Int) := match a with
  | .inl r => some r
  | .inr (.inl w) => match vs[w.1]? with
    | some (i :: is) => match w.2[i]? with
      | some v => rn_mm w.2 is v v
      | none => none
    | _ => none
  | .inr (.inr (.inr (.inr (.inl _)))) => some (0, 2147483647)
  | .inr (.inr (.inr (.inr (.inr (.inl _))))) => some (-2147483648, 2147483647)
  | _ => none
theorem rn_hull_ok {E : rn_E} {G : rn_G} {vs : List (List Nat)} (hv : rn_okV E vs) {a : rn_V} {r : Int × Int} (h : rn_hull vs a = some r) {u : Value} (hg : rn_g E G a u) : ∃ y : Int32, u = .int y ∧ r.1 ≤ y.toInt ∧ y.toInt ≤ r.2 := by
  rcases a with a | a | a | a | a | a | a
  · cases h; exact hg
  · obtain ⟨y, e, ht⟩ := hg
    refine ⟨y, e, ?_⟩
    unfold rn_hull at h
    dsimp only at h
    cases hx : vs[a.1]? with
    | none => rw [hx] at h; cases h
    | some l =>
      rw [hx] at h
      cases l with
      | nil => cases h
      | cons i is =>
        dsimp only at h
        cases hi : a.2[i]? with
        | none => rw [hi] at h; cases h
        | some v =>
          rw [hi] at h
          obtain ⟨h1, h2, h3⟩ := rn_mm_ok h
          rcases List.mem_cons.mp (hv _ _ hx) with q | q
          · rw [q, hi] at ht
            cases ht
            exact ⟨h1, h2⟩
          · obtain ⟨v', h4, h5, h6⟩ := h3 _ q
            rw [ht] at h4
            cases h4
            exact ⟨h5, h6⟩
  · cases h
  · cases h
  · obtain ⟨y, e, h1, h2⟩ := hg
    cases h
    exact ⟨y, e, h1, by have := ri_rng y; show y.toInt ≤ 2147483647; omega⟩
  · obtain ⟨y, -, e⟩ := hg
    cases h
    exact ⟨y, e, by have := ri_rng y; show -2147483648 ≤ y.toInt; omega, by have := ri_rng y; show y.toInt ≤ 2147483647; omega⟩
  · cases h
def rn_fit (a b : Int) : Bool := decide (-2147483648 ≤ a) && decide (b ≤ 2147483647)
theorem rn_fit_ok {a b : Int} (h : rn_fit a b = true) : -2147483648 ≤ a ∧ b ≤ 2147483647 := by
  unfold rn_fit at h
  rw [Bool.and_eq_true, decide_eq_true_eq, decide_eq_true_eq] at h
  exact h
def rn_any : rn_V := .inl (-2147483648, 2147483647)
theorem rn_any_ok {E : rn_E} {G : rn_G} (y : Int32) : rn_g E G rn_any (.int y) := ⟨y, rfl, by have := ri_rng y; show -2147483648 ≤ y.toInt; omega, by have := ri_rng y; show y.toInt ≤ 2147483647; omega⟩
def rn_rg (r : Int × Int) : rn_V := cond (rn_fit r.1 r.2) (.inl r) rn_any
theorem rn_rg_ok {E : rn_E} {G : rn_G} {r : Int × Int} {y : Int32} (h : rn_fit r.1 r.2 = true → r.1 ≤ y.toInt ∧ y.toInt ≤ r.2) : rn_g E G (rn_rg r) (.int y) := by
  unfold rn_rg
  cases hf : rn_fit r.1 r.2 with
  | true => exact ⟨y, rfl, h hf⟩
  | false => exact rn_any_ok y
def rn_hb (hl : Int × Int → Int × Int → Int × Int) (vs : List (List Nat)) (a b : rn_V) : Option rn_V := match rn_hull vs a with
  | none => none
  | some r => match rn_hull vs b with
    | none => none
    | some q => some (rn_rg (hl r q))
/-- a sum, a difference, the lesser, the greater -/
def rn_bi (op : Int → Int → Int) (hl : Int × Int → Int × Int → Int × Int) (vs : List (List Nat)) (a b : rn_V) : Option rn_V := match a with
  | .inr (.inl w) => match b with
    | .inl r => cond (decide (r.1 = r.2) && (w.2.map (fun v => op v r.1)).all (fun v => rn_fit v v)) (some (.inr (.inl (w.1, w.2.map (fun v => op v r.1))))) (rn_hb hl vs a b)
    | _ => rn_hb hl vs a b
  | .inl r => match b with
    | .inr (.inl w) => cond (decide (r.1 = r.2) && (w.2.map (fun v => op r.1 v)).all (fun v => rn_fit v v)) (some (.inr (.inl (w.1, w.2.map (fun v => op r.1 v))))) (rn_hb hl vs a b)
    | _ => rn_hb hl vs a b
  | _ => rn_hb hl vs a b
section
variable {op : Int → Int → Int} {hl : Int × Int → Int × Int → Int × Int} {F : Int32 → Int32 → Int32}
theorem rn_hb_ok (hF : ∀ x y : Int32, -2147483648 ≤ op x.toInt y.toInt → op x.toInt y.toInt ≤ 2147483647 → (F x y).toInt = op x.toInt y.toInt) (hH : ∀ (r q : Int × Int) (a b : Int), r.1 ≤ a → a ≤ r.2 → q.1 ≤ b → b ≤ q.2 → (hl r q).1 ≤ op a b ∧ op a b ≤ (hl r q).2)
    {E : rn_E} {G : rn_G} {vs : List (List Nat)} (hv : rn_okV E vs) {a b r : rn_V} (h : rn_hb hl vs a b = some r) {x y : Int32} (ha : rn_g E G a (.int x)) (hb : rn_g E G b (.int y)) : rn_g E G r (.int (F x y)) := by
  unfold rn_hb at h
  cases h1 : rn_hull vs a with
  | none => rw [h1] at h; cases h
  | some q =>
    cases h2 : rn_hull vs b with
    | none => rw [h1, h2] at h; cases h
    | some q' =>
      rw [h1, h2] at h
      cases h
      obtain ⟨x', e, a1, a2⟩ := rn_hull_ok hv h1 ha
      cases e
      obtain ⟨y', e, b1, b2⟩ := rn_hull_ok hv h2 hb
      cases e
      obtain ⟨c1, c2⟩ := hH q q' _ _ a1 a2 b1 b2
      refine rn_rg_ok fun hf => ?_
      obtain ⟨f1, f2⟩ := rn_fit_ok hf
      rw [hF x y (by omega) (by omega)]
      exact ⟨c1, c2⟩
theorem rn_tab {f : Int → Int} {t : List Int} (h : (t.map f).all (fun v => rn_fit v v) = true) {i : Nat} {v : Int} (hi : t[i]? = some v) : (t.map f)[i]? = some (f v) ∧ -2147483648 ≤ f v ∧ f v ≤ 2147483647 := by
  have e : (t.map f)[i]? = some (f v) := by rw [List.getElem?_map, hi]; rfl
  exact ⟨e, rn_fit_ok (List.all_eq_true.mp h _ (List.mem_of_getElem? e))⟩
theorem rn_bi_ok (hF : ∀ x y : Int32, -2147483648 ≤ op x.toInt y.toInt → op x.toInt y.toInt ≤ 2147483647 → (F x y).toInt = op x.toInt y.toInt) (hH : ∀ (r q : Int × Int) (a b : Int), r.1 ≤ a → a ≤ r.2 → q.1 ≤ b → b ≤ q.2 → (hl r q).1 ≤ op a b ∧ op a b ≤ (hl r q).2)
    {E : rn_E} {G : rn_G} {vs : List (List Nat)} (hv : rn_okV E vs) {a b r : rn_V} (h : rn_bi op hl vs a b = some r) {x y : Int32} (ha : rn_g E G a (.int x)) (hb : rn_g E G b (.int y)) : rn_g E G r (.int (F x y)) := by
  unfold rn_bi at h
  split at h
  · split at h
    · rename_i w _ r0
      cases hc : (decide (r0.1 = r0.2) && (w.2.map (fun v => op v r0.1)).all (fun v => rn_fit v v)) with
      | false => rw [hc, cond_false] at h; exact rn_hb_ok hF hH hv h ha hb
      | true =>
        rw [hc] at h
        cases h
        rw [Bool.and_eq_true, decide_eq_true_eq] at hc
        obtain ⟨x', e, hx⟩ := ha
        cases e
        obtain ⟨y', e, b1, b2⟩ := hb
        cases e
        have ey : y.toInt = r0.1 := by omega
        obtain ⟨t1, t2, t3⟩ := rn_tab (f := fun v => op v r0.1) hc.2 hx
        refine ⟨F x y, rfl, ?_⟩
        rw [hF x y (by rw [ey]; exact t2) (by rw [ey]; exact t3), ey]
        exact t1
    · exact rn_hb_ok hF hH hv h ha hb
  · split at h
    · rename_i r0 _ w
      cases hc : (decide (r0.1 = r0.2) && (w.2.map (fun v => op r0.1 v)).all (fun v => rn_fit v v)) with
      | false => rw [hc, cond_false] at h; exact rn_hb_ok hF hH hv h ha hb
      | true =>
        rw [hc] at h
        cases h
        rw [Bool.and_eq_true, decide_eq_true_eq] at hc
        obtain ⟨y', e, hy⟩ := hb
        cases e
        obtain ⟨x', e, a1, a2⟩ := ha
        cases e
        have ex : x.toInt = r0.1 := by omega
        obtain ⟨t1, t2, t3⟩ := rn_tab (f := fun v => op r0.1 v) hc.2 hy
        refine ⟨F x y, rfl, ?_⟩
        rw [hF x y (by rw [ex]; exact t2) (by rw [ex]; exact t3), ex]
        exact t1
    · exact rn_hb_ok hF hH hv h ha hb
  · exact rn_hb_ok hF hH hv h ha hb
end
def rn_oadd (vs : List (List Nat)) (a b : rn_V) : Option (List rn_V) := match a, b with
  | .inr (.inr (.inr (.inr (.inl c)))), .inl r => cond (decide (r.1 = 1) && decide (r.2 = 1) && Nat.ble c 1000) (some [.inr (.inr (.inr (.inr (.inl (c + 1)))))]) ((rn_bi (· + ·) (fun r q => (r.1 + q.1, r.2 + q.2)) vs a b).map fun r => [r])
  | _, _ => (rn_bi (· + ·) (fun r q => (r.1 + q.1, r.2 + q.2)) vs a b).map fun r => [r]
def rn_osub (vs : List (List Nat)) (a b : rn_V) : Option (List rn_V) := (rn_bi (· - ·) (fun r q => (r.1 - q.2, r.2 - q.1)) vs a b).map fun r => [r]
def rn_imin (x y : Int) : Int := cond (decide (y < x)) y x
def rn_imax (x y : Int) : Int := cond (decide (x < y)) y x
def rn_omin (vs : List (List Nat)) (a b : rn_V) : Option (List rn_V) := (rn_bi rn_imin (fun r q => (rn_imin r.1 q.1, rn_imin r.2 q.2)) vs a b).map fun r => [r]
def rn_omax (vs : List (List Nat)) (a b : rn_V) : Option (List rn_V) := (rn_bi rn_imax (fun r q => (rn_imax r.1 q.1, rn_imax r.2 q.2)) vs a b).map fun r => [r]
/-- an operation on two ints is what the machine makes of them -/
def rn_O2 (f : List (List Nat) → rn_V → rn_V → Option (List rn_V)) (F : Int32 → Int32 → Int32) : Prop := ∀ (E : rn_E) (G : rn_G) (vs : List (List Nat)) (a b : rn_V) (L : List rn_V) (x y : Int32), E.2.2.1 ≤ 1000000 → rn_okV E vs → rn_g E G a (.int x) → rn_g E G b (.int y) → f vs a b = some L → ∃ r ∈ L, rn_g E G r (.int (F x y))
theorem rn_omap {f : Option rn_V} {L : List rn_V} {P : rn_V → Prop} (h : f.map (fun r => [r]) = some L) (k : ∀ r, f = some r → P r) : ∃ r ∈ L, P r := by
  cases f with
  | none => cases h
  | some r => cases h; exact ⟨r, List.mem_cons_self, k r rfl⟩
theorem rn_badd_ok {E : rn_E} {G : rn_G} {vs : List (List Nat)} (hv : rn_okV E vs) {a b : rn_V} {x y : Int32} (ha : rn_g E G a (.int x)) (hb : rn_g E G b (.int y)) {L : List rn_V} (h : ((rn_bi (· + ·) (fun r q => (r.1 + q.1, r.2 + q.2)) vs a b).map fun r => [r]) = some L) : ∃ r ∈ L, rn_g E G r (.int (x + y)) :=
  rn_omap h fun r hr => rn_bi_ok (F := fun x y => x + y) (fun x y h1 h2 => ri_add h1 (by omega)) (fun r q a b h1 h2 h3 h4 => ⟨by show r.1 + q.1 ≤ a + b; omega, by show a + b ≤ r.2 + q.2; omega⟩) hv hr ha hb
theorem rn_oadd_ok : rn_O2 rn_oadd (fun x y => x + y) := by
  intro E G vs a b L x y ht hv ha hb h
  unfold rn_oadd at h
  split at h
  · rename_i c r
    cases hc : (decide (r.1 = 1) && decide (r.2 = 1) && Nat.ble c 1000) with
    | false => rw [hc] at h; exact rn_badd_ok hv ha hb h
    | true =>
      rw [hc] at h
      cases h
      rw [Bool.and_eq_true, Bool.and_eq_true, decide_eq_true_eq, decide_eq_true_eq] at hc
      obtain ⟨⟨e1, e2⟩, e3⟩ := hc
      have e3 := Nat.le_of_ble_eq_true e3
      obtain ⟨x', e, a1, a2⟩ := ha
      cases e
      obtain ⟨y', e, b1, b2⟩ := hb
      cases e
      have ey : y.toInt = 1 := by omega
      refine ⟨_, List.mem_cons_self, x + y, rfl, ?_⟩
      have hs : (x + y).toInt = x.toInt + y.toInt := ri_add (by omega) (by omega)
      rw [hs, ey]
      exact ⟨by omega, by rw [Int.natCast_add]; show x.toInt + 1 ≤ (E.2.2.1 : Int) + ((c : Int) + 1); omega⟩
  · exact rn_badd_ok hv ha hb h
theorem rn_osub_ok : rn_O2 rn_osub (fun x y => x - y) := by
  intro E G vs a b L x y ht hv ha hb h
  exact rn_omap h fun r hr => rn_bi_ok (F := fun x y => x - y) (fun x y h1 h2 => ri_sub h1 (by omega)) (fun r q a b h1 h2 h3 h4 => ⟨by show r.1 - q.2 ≤ a - b; omega, by show a - b ≤ r.2 - q.1; omega⟩) hv hr ha hb
theorem rn_imin_or (x y : Int) : (rn_imin x y = y ∧ y < x) ∨ (rn_imin x y = x ∧ x ≤ y) := by
  unfold rn_imin
  by_cases h : y < x
  · rw [decide_eq_true h]; exact Or.inl ⟨rfl, h⟩
  · rw [decide_eq_false h]; exact Or.inr ⟨rfl, by omega⟩
theorem rn_imax_or (x y : Int) : (rn_imax x y = y ∧ x < y) ∨ (rn_imax x y = x ∧ y ≤ x) := by
  unfold rn_imax
  by_cases h : x < y
  · rw [decide_eq_true h]; exact Or.inl ⟨rfl, h⟩
  · rw [decide_eq_false h]; exact Or.inr ⟨rfl, by omega⟩
theorem rn_omin_ok : rn_O2 rn_omin (fun x y => if y < x then y else x) := by
  intro E G vs a b L x y ht hv ha hb h
  refine rn_omap h fun r hr => rn_bi_ok (F := fun x y => if y < x then y else x) (fun x y h1 h2 => ?_) (fun r q a b h1 h2 h3 h4 => ?_) hv hr ha hb
  · show (if y < x then y else x).toInt = rn_imin x.toInt y.toInt
    rcases rn_imin_or x.toInt y.toInt with ⟨e, h⟩ | ⟨e, h⟩
    · rw [if_pos ((ri_lt _ _).mpr h), e]
    · rw [if_neg (fun z => by have := (ri_lt _ _).mp z; omega), e]
  · show rn_imin r.1 q.1 ≤ rn_imin a b ∧ rn_imin a b ≤ rn_imin r.2 q.2
    rcases rn_imin_or a b with ⟨e, h⟩ | ⟨e, h⟩ <;> rcases rn_imin_or r.1 q.1 with ⟨e1, h5⟩ | ⟨e1, h5⟩ <;> rcases rn_imin_or r.2 q.2 with ⟨e2, h6⟩ | ⟨e2, h6⟩ <;> rw [e, e1, e2] <;> omega
theorem rn_omax_ok : rn_O2 rn_omax (fun x y => if x < y then y else x) := by
  intro E G vs a b L x y ht hv ha hb h
  refine rn_omap h fun r hr => rn_bi_ok (F := fun x y => if x < y then y else x) (fun x y h1 h2 => ?_) (fun r q a b h1 h2 h3 h4 => ?_) hv hr ha hb
  · show (if x < y then y else x).toInt = rn_imax x.toInt y.toInt
    rcases rn_imax_or x.toInt y.toInt with ⟨e, h⟩ | ⟨e, h⟩
    · rw [if_pos ((ri_lt _ _).mpr h), e]
    · rw [if_neg (fun z => by have := (ri_lt _ _).mp z; omega), e]
  · show rn_imax r.1 q.1 ≤ rn_imax a b ∧ rn_imax a b ≤ rn_imax r.2 q.2
    rcases rn_imax_or a b with ⟨e, h⟩ | ⟨e, h⟩ <;> rcases rn_imax_or r.1 q.1 with ⟨e1, h5⟩ | ⟨e1, h5⟩ <;> rcases rn_imax_or r.2 q.2 with ⟨e2, h6⟩ | ⟨e2, h6⟩ <;> rw [e, e1, e2] <;> omega
/-- a product: of two known ones, or some number -/
def rn_omul (vs : List (List Nat)) (a b : rn_V) : Option (List rn_V) := match rn_hull vs a with
  | none => none
  | some r => match rn_hull vs b with
    | none => none
    | some q => cond (decide (r.1 = r.2) && decide (q.1 = q.2)) (some [rn_rg (r.1 * q.1, r.1 * q.1)]) (some [rn_any])
theorem rn_omul_ok : rn_O2 rn_omul (fun x y => x * y) := by
  intro E G vs a b L x y ht hv ha hb h
  unfold rn_omul at h
  cases h1 : rn_hull vs a with
  | none => rw [h1] at h; cases h
  | some r =>
    cases h2 : rn_hull vs b with
    | none => rw [h1, h2] at h; cases h
    | some q =>
      rw [h1, h2] at h
      dsimp only at h
      cases hc : (decide (r.1 = r.2) && decide (q.1 = q.2)) with
      | false => rw [hc] at h; cases h; exact ⟨_, List.mem_cons_self, rn_any_ok _⟩
      | true =>
        rw [hc] at h
        cases h
        rw [Bool.and_eq_true, decide_eq_true_eq, decide_eq_true_eq] at hc
        obtain ⟨x', e, a1, a2⟩ := rn_hull_ok hv h1 ha
        cases e
        obtain ⟨y', e, b1, b2⟩ := rn_hull_ok hv h2 hb
        cases e
        have ex : r.1 = x.toInt := by omega
        have ey : q.1 = y.toInt := by omega
        refine ⟨_, List.mem_cons_self, rn_rg_ok fun hf => ?_⟩
        obtain ⟨f1, f2⟩ := rn_fit_ok hf
        dsimp only at f1 f2 ⊢
        rw [ex, ey] at f1 f2 ⊢
        rw [ri_mul f1 (by omega)]
        exact ⟨Int.le_refl _, Int.le_refl _⟩
/-- n numbers from lo on, each by itself -/
def rn_spl (lo : Int) : Nat → List rn_V
  | 0 => []
  | n + 1 => .inl (lo, lo) :: rn_spl (lo + 1) n
theorem rn_spl_ok {E : rn_E} {G : rn_G} {y : Int32} : ∀ (n : Nat) (lo : Int), lo ≤ y.toInt → y.toInt < lo + n → ∃ r ∈ rn_spl lo n, rn_g E G r (.int y)
  | 0, lo, h1, h2 => by omega
  | n + 1, lo, h1, h2 => by
    by_cases e : y.toInt = lo
    · exact ⟨.inl (lo, lo), List.mem_cons_self, y, rfl, by show lo ≤ y.toInt; omega, by show y.toInt ≤ lo; omega⟩
    · obtain ⟨r, h3, h4⟩ := rn_spl_ok (E := E) (G := G) (y := y) n (lo + 1) (by omega) (by omega)
      exact ⟨r, List.mem_cons_of_mem _ h3, h4⟩
/-- a quotient by a known number above 0 -/
def rn_odiv (vs : List (List Nat)) (a b : rn_V) : Option (List rn_V) := match rn_hull vs a with
  | none => none
  | some r => match b with
    | .inl q => cond (decide (q.1 = q.2) && decide (0 < q.1)) (cond (decide (0 ≤ r.1)) (cond (decide (r.1 = r.2)) (some [rn_rg (r.1 / q.1, r.1 / q.1)]) (some [.inl (0, r.2)])) (some [rn_any])) none
    | _ => none
def rn_orem (vs : List (List Nat)) (a b : rn_V) : Option (List rn_V) := match rn_hull vs a with
  | none => none
  | some r => match b with
    | .inl q => cond (decide (q.1 = q.2) && decide (0 < q.1)) (cond (decide (0 ≤ r.1)) (cond (decide (r.1 = r.2)) (some [rn_rg (r.1 % q.1, r.1 % q.1)]) (cond (decide (q.1 ≤ 12)) (some (rn_spl 0 q.1.toNat)) (some [.inl (0, q.1 - 1)])))
        (cond (decide (q.1 ≤ 12)) (some (rn_spl (1 - q.1) (2 * q.1 - 1).toNat)) (some [.inl (1 - q.1, -1), .inl (0, q.1 - 1)]))) none
    | _ => none
theorem rn_nz {y : Int32} (h : 0 < y.toInt) : ¬ y = 0 := fun e => by rw [e] at h; exact absurd h (by decide)
theorem rn_odiv_nz {E : rn_E} {G : rn_G} {vs : List (List Nat)} {a b : rn_V} {L : List rn_V} {y : Int32} (hb : rn_g E G b (.int y)) (h : rn_odiv vs a b = some L) : ¬ y = 0 := by
  unfold rn_odiv at h
  cases h1 : rn_hull vs a with
  | none => rw [h1] at h; cases h
  | some r =>
    rw [h1] at h
    dsimp only at h
    split at h
    · rename_i q
      cases hc : (decide (q.1 = q.2) && decide (0 < q.1)) with
      | false => rw [hc] at h; cases h
      | true =>
        rw [Bool.and_eq_true, decide_eq_true_eq, decide_eq_true_eq] at hc
        obtain ⟨y', e, b1, b2⟩ := hb
        cases e
        exact rn_nz (by omega)
    · cases h
theorem rn_orem_nz {E : rn_E} {G : rn_G} {vs : List (List Nat)} {a b : rn_V} {L : List rn_V} {y : Int32} (hb : rn_g E G b (.int y)) (h : rn_orem vs a b = some L) : ¬ y = 0 := by
  unfold rn_orem at h
  cases h1 : rn_hull vs a with
  | none => rw [h1] at h; cases h
  | some r =>
    rw [h1] at h
    dsimp only at h
    split at h
    · rename_i q
      cases hc : (decide (q.1 = q.2) && decide (0 < q.1)) with
      | false => rw [hc] at h; cases h
      | true =>
        rw [Bool.and_eq_true, decide_eq_true_eq, decide_eq_true_eq] at hc
        obtain ⟨y', e, b1, b2⟩ := hb
        cases e
        exact rn_nz (by omega)
    · cases h
theorem rn_odiv_ok : rn_O2 rn_odiv (fun x y => x / y) := by
  intro E G vs a b L x y ht hv ha hb h
  unfold rn_odiv at h
  cases h1 : rn_hull vs a with
  | none => rw [h1] at h; cases h
  | some r =>
    rw [h1] at h
    dsimp only at h
    split at h
    · rename_i q
      cases hc : (decide (q.1 = q.2) && decide (0 < q.1)) with
      | false => rw [hc] at h; cases h
      | true =>
        rw [hc] at h
        dsimp only [cond] at h
        rw [Bool.and_eq_true, decide_eq_true_eq, decide_eq_true_eq] at hc
        obtain ⟨x', e, a1, a2⟩ := rn_hull_ok hv h1 ha
        cases e
        obtain ⟨y', e, b1, b2⟩ := hb
        cases e
        have ey : y.toInt = q.1 := by omega
        cases h0 : decide (0 ≤ r.1) with
        | false => rw [h0] at h; cases h; exact ⟨_, List.mem_cons_self, rn_any_ok _⟩
        | true =>
          rw [h0] at h
          dsimp only at h
          have h0 := of_decide_eq_true h0
          have hx0 : 0 ≤ x.toInt := by omega
          have hq : x.toInt.tdiv y.toInt = x.toInt / q.1 := by rw [ey]; exact Int.tdiv_eq_ediv_of_nonneg hx0
          have hr := ri_rng x
          have d1 : 0 ≤ x.toInt / q.1 := Int.ediv_nonneg hx0 (by omega)
          have d2 : x.toInt / q.1 ≤ x.toInt := Int.ediv_le_self q.1 hx0
          have hd : (x / y).toInt = x.toInt / q.1 := by
            rw [Int32.toInt_div, hq]
            exact ri_bmod (by omega) (by omega)
          cases h2 : decide (r.1 = r.2) with
          | false =>
            rw [h2] at h; cases h
            exact ⟨_, List.mem_cons_self, x / y, rfl, by rw [hd]; exact d1, by rw [hd]; show x.toInt / q.1 ≤ r.2; omega⟩
          | true =>
            rw [h2] at h; cases h
            have h2 := of_decide_eq_true h2
            have ex : r.1 = x.toInt := by omega
            refine ⟨_, List.mem_cons_self, rn_rg_ok fun _ => ?_⟩
            dsimp only
            rw [hd, ex]
            exact ⟨Int.le_refl _, Int.le_refl _⟩
    · cases h
theorem rn_orem_ok : rn_O2 rn_orem (fun x y => x - x / y * y) := by
  intro E G vs a b L x y ht hv ha hb h
  unfold rn_orem at h
  cases h1 : rn_hull vs a with
  | none => rw [h1] at h; cases h
  | some r =>
    rw [h1] at h
    dsimp only at h
    split at h
    · rename_i q
      cases hc : (decide (q.1 = q.2) && decide (0 < q.1)) with
      | false => rw [hc] at h; cases h
      | true =>
        rw [hc] at h
        dsimp only [cond] at h
        rw [Bool.and_eq_true, decide_eq_true_eq, decide_eq_true_eq] at hc
        obtain ⟨x', e, a1, a2⟩ := rn_hull_ok hv h1 ha
        cases e
        obtain ⟨y', e, b1, b2⟩ := hb
        cases e
        have ey : y.toInt = q.1 := by omega
        have hm : (x - x / y * y).toInt = x.toInt.tmod q.1 := by rw [rem_toInt, ey]
        obtain ⟨t1, t2⟩ := tmod_bounds (a := x.toInt) hc.2
        cases h0 : decide (0 ≤ r.1) with
        | false =>
          rw [h0] at h
          dsimp only at h
          cases h3 : decide (q.1 ≤ 12) with
          | false =>
            rw [h3] at h; cases h
            by_cases h9 : 0 ≤ x.toInt.tmod q.1
            · exact ⟨_, List.mem_cons_of_mem _ List.mem_cons_self, _, rfl, by rw [hm]; show 0 ≤ _; omega, by rw [hm]; show _ ≤ q.1 - 1; omega⟩
            · exact ⟨_, List.mem_cons_self, _, rfl, by rw [hm]; show 1 - q.1 ≤ _; omega, by rw [hm]; show _ ≤ (-1 : Int); omega⟩
          | true =>
            rw [h3] at h; cases h
            exact rn_spl_ok _ _ (by rw [hm]; omega) (by rw [hm]; omega)
        | true =>
          rw [h0] at h
          dsimp only at h
          have h0 := of_decide_eq_true h0
          have hx0 : 0 ≤ x.toInt := by omega
          have he : x.toInt.tmod q.1 = x.toInt % q.1 := Int.tmod_eq_emod_of_nonneg hx0
          have e1 : 0 ≤ x.toInt % q.1 := Int.emod_nonneg _ (by omega)
          cases h2 : decide (r.1 = r.2) with
          | true =>
            rw [h2] at h; cases h
            have h2 := of_decide_eq_true h2
            have ex : r.1 = x.toInt := by omega
            refine ⟨_, List.mem_cons_self, rn_rg_ok fun _ => ?_⟩
            dsimp only
            rw [hm, he, ex]
            exact ⟨Int.le_refl _, Int.le_refl _⟩
          | false =>
            rw [h2] at h
            dsimp only at h
            cases h3 : decide (q.1 ≤ 12) with
            | false =>
              rw [h3] at h; cases h
              exact ⟨_, List.mem_cons_self, _, rfl, by rw [hm, he]; exact e1, by rw [hm]; show _ ≤ q.1 - 1; omega⟩
            | true =>
              rw [h3] at h; cases h
              exact rn_spl_ok _ _ (by rw [hm, he]; exact e1) (by rw [hm]; omega)
    · cases h
end RND
