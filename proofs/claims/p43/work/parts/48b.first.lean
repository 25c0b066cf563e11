section RNFI2
def ra_all (f : rn_O → Bool) (o : Option (List rn_O)) : Bool := match o with
  | none => false
  | some os => os.all f
theorem ra_all_ok {f : rn_O → Bool} {o : Option (List rn_O)} (h : ra_all f o = true) : ∃ os, o = some os ∧ ∀ x ∈ os, f x = true := by
  cases o with
  | none => cases h
  | some os => exact ⟨os, rfl, List.all_eq_true.mp h⟩
/-- where sleeping begins -/
def ra_in : rn_S := (List.replicate 9 [0], [], 0, 0, [(0, .inr (.inr (.inr (.inl 2))))], [], 0, 0)
/-- .. with the numbers of sources and devices known, and a chip -/
def ra_S0 (S D : Nat) : rn_S := (List.replicate 9 [0], [.inr (8, [rt_r 1, rt_r 2, rt_r 3, rt_r 4, rt_r 5, rt_r 6, rt_l0, rt_c 0, rt_c 0, rt_c (-1)]), rt_nol, rt_nol, rt_nol, rt_nol, rt_nol, .inl (1, rt_rep 6 rt_l0)], 0, 33, [(3, rt_c (Int.ofNat D)), (2, rt_c (Int.ofNat S)), (1, rt_r 0), (0, .inr (.inr (.inr (.inl 2))))], [], 7, 45)
def ra_end0 (o : rn_O) : Bool := match o.2.2.2 with
  | .inr (.inr (p, al, st, c, z)) => match ra_sd al with
    | none => false
    | some (S, D) => Nat.ble 1 S && Nat.ble S 6 && Nat.ble 1 D && Nat.ble D 4 && rm_ok 0 [] (o.1, o.2.1, o.2.2.1, p, al, st, c, z) (ra_S0 S D)
  | _ => false
/-- the state in which a run was stopped -/
def ra_st (o : rn_O) : Option rn_S := match o.2.2.2 with
  | .inr (.inr q) => some (o.1, o.2.1, o.2.2.1, q)
  | _ => none
def ra_nx (f : rn_S → Bool) (o : rn_O) : Bool := match ra_st o with
  | some S => f S
  | none => false
/-- one device's round -/
noncomputable def ra_r (S : rn_S) : Option (List rn_O) := rn_run0 MM tg_x gen0 100000 11 131 S
/-- .. n rounds, then the end of the loop -/
noncomputable def ra_lv (n : Nat) : rn_S → Bool := Nat.rec (motive := fun _ => rn_S → Bool) (fun S => ra_all (ra_end 300 3000) (ra_r S)) (fun _ f S => ra_all (ra_nx f) (ra_r S)) n
/-- one of two branches -/
def ra_br (b : Bool) (f : rn_S → Bool) (os : Option (List rn_O)) : Bool := match os with
  | some [o, q] => ra_nx f (cond b o q)
  | _ => false
theorem ra_nx_ok {f g : rn_S → Bool} (h : ∀ S, f S = true → g S = true) {o : rn_O} (hf : ra_nx f o = true) : ra_nx g o = true := by
  unfold ra_nx at hf ⊢
  cases hs : ra_st o with
  | none => rw [hs] at hf; cases hf
  | some S =>
    rw [hs] at hf
    exact h S hf
theorem ra_nx_two {f g k : rn_S → Bool} (h : ∀ S, f S = true → g S = true → k S = true) {o : rn_O} (hf : ra_nx f o = true) (hg : ra_nx g o = true) : ra_nx k o = true := by
  unfold ra_nx at hf hg ⊢
  cases hs : ra_st o with
  | none => rw [hs] at hf; cases hf
  | some S =>
    rw [hs] at hf hg
    exact h S hf hg
theorem ra_br_two {b : Bool} {f g k : rn_S → Bool} (h : ∀ S, f S = true → g S = true → k S = true) {os : Option (List rn_O)} (hf : ra_br b f os = true) (hg : ra_br b g os = true) : ra_br b k os = true := by
  unfold ra_br at hf hg ⊢
  split at hf
  · exact ra_nx_two h hf hg
  · cases hf
theorem ra_br_all {f : rn_S → Bool} {os : Option (List rn_O)} (h1 : ra_br true f os = true) (h2 : ra_br false f os = true) : ra_all (ra_nx f) os = true := by
  unfold ra_br at h1 h2
  split at h1
  · rename_i o q
    show List.all [o, q] (ra_nx f) = true
    rw [List.all_cons, List.all_cons, List.all_nil, Bool.and_true, Bool.and_eq_true]
    exact ⟨h1, h2⟩
  · cases h1
noncomputable def ra_chk0 : Bool := ra_all ra_end0 (rn_run0 MM tg_x gen0 100000 11 129 ra_in)
noncomputable def ra_chk (S D : Nat) : Bool := ra_all (ra_nx (ra_lv D)) (rn_run0 MM tg_x gen0 100000 11 69 (ra_S0 S D))
/-- .. the branches by which the domain keeps or not, and the first device is awake or not -/
noncomputable def ra_c2 (S D : Nat) (b c : Bool) : Bool := ra_br b (fun Z => ra_br c (ra_lv D) (ra_r Z)) (rn_run0 MM tg_x gen0 100000 11 69 (ra_S0 S (D + 1)))
theorem ra_c2_ok {S D : Nat} (h1 : ra_c2 S D true true = true) (h2 : ra_c2 S D true false = true) (h3 : ra_c2 S D false true = true) (h4 : ra_c2 S D false false = true) : ra_chk S (D + 1) = true := by
  unfold ra_c2 at h1 h2 h3 h4
  unfold ra_chk
  have k : ∀ Z : rn_S, ra_br true (ra_lv D) (ra_r Z) = true → ra_br false (ra_lv D) (ra_r Z) = true → ra_lv (D + 1) Z = true := fun Z g1 g2 => ra_br_all g1 g2
  exact ra_br_all (ra_br_two k h1 h2) (ra_br_two k h3 h4)
end RNFI2
