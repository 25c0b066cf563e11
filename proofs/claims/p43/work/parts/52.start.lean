section RNST
/-! what the start gives -/
def rs_fl : List Cond := flatC (Jvm.Cond.and given_1 narrow_1)
theorem rs_classes {s : State} : ∀ cl : List vw_C, (∀ q ∈ cl, ∃ (cC : ClassId) (iS : Nat → Nat), u_Kn s q.1 q.2.1 q.2.2 cC iS) → ∃ (dC : Nat → ClassId) (dI : Nat → Nat → Nat), ∀ (k : Nat) (q : vw_C), cl[k]? = some q → u_Kn s q.1 q.2.1 q.2.2 (dC k) (dI k)
  | [], _ => ⟨fun _ => 0, fun _ _ => 0, fun k q h => by simp at h⟩
  | a :: cl, h => by
    obtain ⟨c0, i0, h0⟩ := h a List.mem_cons_self
    obtain ⟨dC, dI, hr⟩ := rs_classes cl fun q hq => h q (List.mem_cons_of_mem _ hq)
    refine ⟨fun k => match k with
      | 0 => c0
      | k + 1 => dC k, fun k => match k with
      | 0 => i0
      | k + 1 => dI k, fun k q hk => ?_⟩
    cases k with
    | zero =>
      rw [List.getElem?_cons_zero] at hk
      cases hk
      exact h0
    | succ k =>
      rw [List.getElem?_cons_succ] at hk
      exact hr k q hk
theorem rs_in0 : ∀ q ∈ rn_cl, (∀ w ∈ u_ws q.1 q.2.1 q.2.2, w ∈ lw_tbl) ∧ Cond.instantiable q.1 q.2.2 ∈ lw_tbl := by decide +kernel
theorem rs_ar {s : State} {args : Array Value} {ty : FieldType} (hty : ∀ C : String, ty ≠ .object C) (h : (Cond.arrayClass ty).before args s = true) : ∃ cA : ClassId, ArrOfT s cA ty ∧ va_RA s cA ty := by
  obtain ⟨cA, kA, comp, h1, h2, h3⟩ := Cond.arrayClass_spec h
  refine ⟨cA, fun n z => ⟨fun k h => (by cases h), kA, h2, comp, h3⟩, ?_⟩
  cases ty with
  | object C => exact absurd rfl (hty C)
  | _ => exact h1
theorem rs_arO {s : State} {args : Array Value} {C : String} (h : (Cond.arrayOver (.object C)).before args s = true) : ∃ cA : ClassId, ArrOfT s cA (.object C) ∧ va_RA s cA (.object C) := by
  obtain ⟨comp, cA, kA, h1, -, h2, h3, h4⟩ := Cond.arrayOver_spec h
  exact ⟨cA, fun n z => ⟨fun k h => (by cases h), kA, h2, comp, h3⟩, kA, comp, h2, h3, h1, h4⟩
theorem rs_K {s : State} {args : Array Value} (hts : ∀ w ∈ lw_tbl, w.before args s = true) : ∃ (D : va_G) (cA : Nat → ClassId), va_K D rn_cl (rn_tys cA) s := by
  obtain ⟨dC, dI, hC⟩ := rs_classes (s := s) rn_cl fun q hq => u_known hts (rs_in0 q hq).1 (hts _ (rs_in0 q hq).2)
  obtain ⟨a0, h0⟩ := rs_ar (ty := .int) (fun _ q => by cases q) (hts (.arrayClass .int) (by decide +kernel))
  obtain ⟨a1, h1⟩ := rs_ar (ty := .long) (fun _ q => by cases q) (hts (.arrayClass .long) (by decide +kernel))
  obtain ⟨a2, h2⟩ := rs_ar (ty := .boolean) (fun _ q => by cases q) (hts (.arrayClass .boolean) (by decide +kernel))
  obtain ⟨a3, h3⟩ := rs_arO (C := "java/lang/Object") (hts (.arrayOver (.object "java/lang/Object")) (by decide +kernel))
  refine ⟨(dC, dI), fun k => match k with
    | 0 => a0
    | 1 => a1
    | 2 => a2
    | _ => a3, hC, fun k q hk => ?_⟩
  match k, hk with
  | 0, hk => cases hk; exact h0
  | 1, hk => cases hk; exact h1
  | 2, hk => cases hk; exact h2
  | 3, hk => cases hk; exact h3
  | k + 4, hk => simp [rn_tys] at hk
def rs_sw (w : Cond) : Bool := match w with
  | .stringRef o k _ => decide (Cond.exactly (.string o k) "java/lang/String" ∈ rs_fl)
  | _ => true
theorem rs_sw_all : lw_tbl.all rs_sw = true := by decide +kernel
theorem rs_bw_all : (lw_tbl.all fun w => !rn_badw w || w.onTables) = true := by decide +kernel
def rs_nc (i j : Nat) : Bool := Nat.beq i j || decide (Cond.not (.castable (rn_xn i) (rn_xn j)) ∈ rs_fl)
theorem rs_nc_all : ((List.range 6).all fun i => (List.range 6).all fun j => rs_nc i j) = true := by decide +kernel
theorem rs_x5 (X : Nat) : rn_xn X = rn_xn (min X 5) := by
  match X with
  | 0 => rfl
  | 1 => rfl
  | 2 => rfl
  | 3 => rfl
  | 4 => rfl
  | X + 5 =>
    rw [show min (X + 5) 5 = 5 by omega]
    rfl
theorem rs_e1 : Cond.arrayOf (.static "java/util/ArrayList" "DEFAULTCAPACITY_EMPTY_ELEMENTDATA" "[Ljava/lang/Object;") (.object "java/lang/Object") ∈ rs_fl := by decide +kernel
theorem rs_e2 : Cond.eq (.length (.static "java/util/ArrayList" "DEFAULTCAPACITY_EMPTY_ELEMENTDATA" "[Ljava/lang/Object;")) (.int 0) ∈ rs_fl := by decide +kernel
theorem rs_e3 : Cond.isRef (.static Bundle.tN "UNASSIGNED_STACK" Bundle.steD) ∈ rs_fl := by decide +kernel
theorem rs_e4 : Cond.isRef (.static Bundle.tN "SUPPRESSED_SENTINEL" Bundle.listD) ∈ rs_fl := by decide +kernel
theorem rs_e5 : Cond.laysStatic Bundle.tN "UNASSIGNED_STACK" Bundle.steD ∈ lw_tbl := by decide +kernel
theorem rs_e6 : Cond.laysStatic Bundle.tN "SUPPRESSED_SENTINEL" Bundle.listD ∈ lw_tbl := by decide +kernel
theorem rs_e7 : Cond.laysStatic "java/util/ArrayList" "DEFAULTCAPACITY_EMPTY_ELEMENTDATA" "[Ljava/lang/Object;" ∈ lw_tbl := by decide +kernel
theorem rs_e8 : Cond.initialized Bundle.tN ∈ lw_tbl := by decide +kernel
theorem rs_e9 : Cond.initialized "java/util/ArrayList" ∈ lw_tbl := by decide +kernel
/-- what the runner wants of the heap at the start -/
theorem rs_F {s : State} {b L : Nat} {xs : Nat → Int32} (hL : L ≤ 260) (hts : ∀ w ∈ lw_tbl, w.before #[Value.ref b] s = true) (hX : va_X b L xs s s.heap) (hbl : b < s.heap.size) (hgv : (Jvm.Cond.and given_1 narrow_1).before #[Value.ref b] s = true) :
    ∃ a0 : Nat, rn_F (fun _ => 0, fun _ => 0, 0, b, a0) s.heap.size s := by
  have hs : ∀ w ∈ rs_fl, w.before #[Value.ref b] s = true := flat_of_before _ hgv
  have hA : ∀ a : Nat, a < s.heap.size → ¬ rn_hi s.heap.size a := fun a h1 h2 => absurd h1 (Nat.not_lt.mpr h2)
  obtain ⟨a0, g1, g2⟩ := va_Tof (f := fun _ => .null) (N := 0) (A := rn_hi s.heap.size) (by decide) (hs _ rs_e1) (Cond.eq_int (hs _ rs_e2) rfl) (fun j hj => absurd hj (Nat.not_lt_zero j)) hA
  have ha0 : a0 < s.heap.size := by
    obtain ⟨cell, h, -⟩ := g2
    exact (Array.getElem?_eq_some_iff.mp h).1
  refine ⟨a0, vx_Zqof (hts _ rs_e5) (hts _ rs_e8) (hs _ rs_e3) hA, vx_Zqof (hts _ rs_e6) (hts _ rs_e8) (hs _ rs_e4) hA, va_Zref (hts _ rs_e7) (hts _ rs_e9) g1 hA, ⟨_, g2⟩, ⟨L, xs, hL, hX⟩, hbl, ha0, ?_, ?_, ?_, ?_, Nat.zero_le _⟩
  · intro w hw hbad
    have h := List.all_eq_true.mp rs_bw_all w hw
    rw [hbad] at h
    exact va_Nw.of h (hts w hw)
  · intro o k tx hw
    have h := List.all_eq_true.mp rs_sw_all _ hw
    have h : decide (Cond.exactly (.string o k) "java/lang/String" ∈ rs_fl) = true := h
    obtain ⟨a, c, cell, kk, e1, -⟩ := Cond.exactly_spec (hs _ (of_decide_eq_true h))
    exact ⟨a, vk_R.of (hts _ hw) e1⟩
  · intro C hw
    exact va_AO.of (hts _ hw)
  · intro X T hXT
    rw [rs_x5 X, rs_x5 T] at hXT ⊢
    have h1 := List.all_eq_true.mp rs_nc_all (min X 5) (List.mem_range.mpr (by omega))
    have h2 := List.all_eq_true.mp h1 (min T 5) (List.mem_range.mpr (by omega))
    generalize min X 5 = i at hXT h2 ⊢
    generalize min T 5 = j at hXT h2 ⊢
    unfold rs_nc at h2
    rw [Bool.or_eq_true] at h2
    rcases h2 with h2 | h2
    · exact absurd (by rw [Nat.eq_of_beq_eq_true h2]) hXT
    · exact va_Nc.of (hs _ (of_decide_eq_true h2))
end RNST
