section RNLA
theorem mm_129 : MM 129 = MM 69 := rfl
set_option maxRecDepth 16384 in
/-- sleeping, from its entry -/
theorem rt_sleep {o0 : Option (List rn_O)} (hch : ra_all ra_end0 o0 = true) (hrun : rn_run0 MM tg_x gen0 100000 11 129 ra_in = o0) {p : Program} {l : Launch} {e : Env} {R : Room} {s : State} {m : MethodId} {args : Array Value} {below : List Frame} {meth : Method} {c : Code} {D0 : va_G} {cA : Nat → ClassId} {N0 : Nat} {E0 : rn_E} {Q : State → Prop} (ht : E0.2.2.1 = 0)
    (hF : ∀ E : rn_E, E.2.2.1 ≤ 1000000 → E.2.2.2 = E0.2.2.2 → rn_Fr (MM 69).1.cls (MM 69).2.1 (MM 69).2.2.1 (rn_hh (MM 69)) 11 (MM 69).2.2.2.2.2.1 (MM 69).2.2.2.2.2.2 (p, l, e, R, s, m, args, below, meth, c, D0, cA, N0, E, ([], []), Q))
    (hE : ∀ (E : rn_E) (vs : List (List Nat)) (h : List rn_C) (nx : Nat), rn_End (MM 69).2.2.1 (MM 69).2.1 (MM 69).2.2.2.2.2.1 (MM 69).2.2.2.2.2.2 (p, l, e, R, s, m, args, below, meth, c, D0, cA, N0, E, ([], []), Q) (vs, h, nx, .inl (some (.inl (1, 1))))) :
    rn_W (MM 69).2.2.1 (p, l, e, R, s, m, args, below, meth, c, D0, cA, N0, E0, ([], []), Q) ra_in := by
  obtain ⟨os, e0, hall⟩ := ra_all_ok hch
  have hr := hrun.trans e0
  clear hch hrun
  have hF0 := hF E0 (by rw [ht]; exact Nat.zero_le _) rfl
  have key := rn_goW (gen := gen0) (n := 100000) (d := 11) (mu := 129) hr (p, l, e, R, s, m, args, below, meth, c, D0, cA, N0, E0, ([], []), Q) (by rw [mm_129]; exact hF0) ?_
  · rw [mm_129] at key
    exact key
  rw [mm_129]
  intro o ho
  clear hr
  have h1 := hall o ho
  obtain ⟨vs, h, nx, r⟩ := o
  unfold ra_end0 at h1
  dsimp only at h1
  split at h1
  · rename_i pc al st c9 z9
    cases hsd : ra_sd al with
    | none => rw [hsd] at h1; cases h1
    | some q =>
      obtain ⟨S, D⟩ := q
      rw [hsd] at h1
      dsimp only at h1
      rw [Bool.and_eq_true, Bool.and_eq_true, Bool.and_eq_true, Bool.and_eq_true] at h1
      obtain ⟨⟨⟨⟨k1, k2⟩, k3⟩, k4⟩, k5⟩ := h1
      show rn_W (MM 69).2.2.1 (p, l, e, R, s, m, args, below, meth, c, D0, cA, N0, E0, ([], []), Q) (vs, h, nx, pc, al, st, c9, z9)
      refine rm_W k5 fun L0 _ => ?_
      have hS := ra_run S D (Nat.le_of_ble_eq_true k1) (Nat.le_of_ble_eq_true k2) (Nat.le_of_ble_eq_true k3) (Nat.le_of_ble_eq_true k4)
      unfold ra_chk at hS
      exact rt_sleep0 (S0 := ra_S0 S D) (o0 := rn_run0 MM tg_x gen0 100000 11 69 (ra_S0 S D)) (E0 := rm_E [] 0 E0 L0) hS rfl ht (fun E g1 g2 => hF E g1 g2) hE
  · cases h1
/-- a call of sleeping: what it's given, what comes back -/
def rl_a (vs : List (List Nat)) : rn_A := (vs, [], 0, [.inr (.inr (.inr (.inl 2)))])
def rl_o : rn_O := ([], [], 0, .inl (some (.inl (1, 1))))
theorem rl_End {Y : rn_D} {p : Program} {l : Launch} {e : Env} {R : Room} {s : State} {m : MethodId} {args : Array Value} {below : List Frame} {meth : Method} {c : Code} {D : va_G} {cA : Nat → ClassId} {N0 : Nat} {E E1 : rn_E} {mc ms : Nat} (hx : p.tables.exec = Jvm.exec) (hb : c.code = Y.2.1) (hlk : meth.locks = false) (vs : List (List Nat)) (h : List rn_C) (nx : Nat) :
    rn_End Y.2.2.1 Y.2.1 mc ms (p, l, e, R, s, m, args, below, meth, c, D, cA, N0, E1, ([], []), vx_MQ below (rn_Qc D cA N0 E ([], []) [rl_o]) (rn_XC D cA N0 E ([], []) [rl_o]) args s mc ms (rn_hi N0)) (vs, h, nx, .inl (some (.inl (1, 1)))) := by
  unfold rn_End
  dsimp only
  intro G ws H locs hR pc ls u i hro hri hrp hd
  obtain ⟨hq1, hq2, hq3, hq4, hq5, hq6, hq7⟩ := hR
  have hq7 : va_S (rn_hi N0) s.heap H locs := hq7
  cases u with
  | none => exact hro.elim
  | some v =>
    obtain ⟨y, rfl, hy⟩ := hro
    have hQ : ∀ t : State, t.heap = H → rn_Qc D cA N0 E ([], []) [rl_o] args s (.returned (some (.int y))) t := by
      intro t ht
      refine ⟨⟨rl_o, List.mem_cons_self, some (.inl (1, 1)), some (.int y), ([], []), rfl, rfl, ⟨y, rfl, hy⟩, [], rn_ext.rf, ?_, rfl, ⟨rfl, rfl, ?_⟩, ?_, ?_, ?_⟩, by rw [ht]; exact hq7.1, fun q g1 g2 => by rw [ht]; exact hq7.2.1 q g1 g2⟩
      · intro x l hl
        have hl : ([] : List (List Nat))[x]? = some l := hl
        simp at hl
      · intro k c w hc
        have hc : ([] : List rn_C)[k]? = some c := hc
        simp at hc
      · intro k q hk
        simp at hk
      · intro i j p q hi
        simp at hi
      · intro k q hk
        simp at hk
    apply vx_ret
    rcases hri with ⟨g, -⟩ | ⟨y', g, rfl⟩ | ⟨y', g, -⟩ | ⟨g, -⟩
    · cases g
    · cases g
      obtain ⟨ty, h1, h2, -⟩ := hrp
      exact W.zret (p := p) (l := l) (e := e) (R := R) hx hb h1 h2 (fun t ht _ => hQ t ht) hq7.2.2 hd hlk
    · cases g
    · rcases g with g | ⟨a, g⟩ <;> cases g
theorem mm_h69 : (MM 69).2.2.2.2.1 = [] := rfl
theorem mm_l69 : (MM 69).2.2.1 = 19 := rfl
/-- sleeping, called -/
theorem rl_CM {o0 : Option (List rn_O)} (hch : ra_all ra_end0 o0 = true) (hrun : rn_run0 MM tg_x gen0 100000 11 129 ra_in = o0) {l : Launch} {D : va_G} {cA : Nat → ClassId} {N0 : Nat} {E : rn_E} (hst : l.stackTraces = false) (ht : E.2.2.1 = 0) (hE0 : ∀ x : Nat, E.1 x = 0) (vs0 : List (List Nat)) : rn_CM MM l D cA N0 E 12 69 (rl_a vs0) [rl_o] := by
  refine ⟨11, rfl, fun G => ?_⟩
  refine vx_ofW (cc := (MM 69).2.1) (maxL := (MM 69).2.2.1) (ret := (MM 69).2.2.2.1) (rn_plain 69) (rn_we mm_h69) ?_
  intro p e s m args below meth c s₁ B hml htb hv
  obtain ⟨ws9, av, rfl, hgs, hv1, hv2, hv3, hv4, hv5, hv6, hv7, hv8⟩ := hv
  have hG : G = ([], []) := by
    obtain ⟨G1, G2⟩ := G
    have e1 : G2 = [] := List.length_eq_zero_iff.mp hv2
    have e2 : ws9 = [] := List.length_eq_zero_iff.mp hv3.1
    have e3 := hv3.2.1
    rw [e2] at e3
    rw [e1]
    exact congrArg (fun z => (z, ([] : List Int32))) e3.symm
  subst hG
  have hts0 := atoms_spec (ws := rn_ws (MM 69)) B.pre
  have hts : ∀ w ∈ rn_ALL, w.before av.toArray s = true := fun w hw => hts0 w (List.mem_cons_of_mem _ hw)
  have htab : c.exceptionTable.toList = tableOf (MM 69).2.2.2.2.1 := by
    rw [mm_h69]
    cases htl : c.exceptionTable.toList with
    | nil => rfl
    | cons x xs => exact (htb x (by rw [htl]; exact List.mem_cons_self)).elim
  have hFr : ∀ E1 : rn_E, E1.2.2.1 ≤ 1000000 → E1.2.2.2 = E.2.2.2 → rn_Fr (MM 69).1.cls (MM 69).2.1 (MM 69).2.2.1 (rn_hh (MM 69)) 11 (MM 69).2.2.2.2.2.1 (MM 69).2.2.2.2.2.2 (p, l, e, (headSpec (rn_ws (MM 69)) (rn_rm 11 (MM 69).2.2.2.2.2.1 (MM 69).2.2.2.2.2.2)).room, s, m, av.toArray, below, meth, c, D, cA, N0, E1, ([], []), vx_MQ below (rn_Qc D cA N0 E ([], []) [rl_o]) (rn_XC D cA N0 E ([], []) [rl_o]) av.toArray s (MM 69).2.2.2.2.2.1 (MM 69).2.2.2.2.2.2 (rn_hi N0)) := by
    intro E1 g1 g2
    obtain ⟨f1, f2, f3, f4, f5, f6, f7, f8, f9, f10, f11, -⟩ := hv8
    obtain ⟨v1, v2, v3, v4⟩ := E
    obtain ⟨u1, u2, u3, u4⟩ := E1
    have g2 : u4 = v4 := g2
    subst g2
    exact ⟨B.exec, B.bytes, hml, findClass_of_methodNamed B.named, hts, B.notSynchronized, hv6, hv7, ⟨f1, f2, f3, f4, f5, f6, f7, f8, f9, f10, f11, g1⟩, ⟨htab, (name_of_methodNamed B.named B.method).1, B.returns⟩, Nat.le_refl _, Nat.le_refl _, Nat.le_refl _, Nat.le_refl _, hst⟩
  have key := rt_sleep hch hrun (E0 := E) ht hFr (fun E1 vs h nx => rl_End B.exec B.bytes B.notSynchronized vs h nx)
  have hl := lv_entry av (n := (MM 69).2.2.1) (by
    rw [rn_sl, rn_gs.cats hgs]
    rw [mm_l69]
    exact Nat.le_of_ble_eq_true rfl)
  rw [lg_entry_eq]
  refine key ([], []) ws9 s.heap [] _ [] ⟨rn_ext.rf, ?_, hv2, hv3, hv4, hv5, va_S.rf⟩ ⟨_, hl, rn_arg_ok 0 hgs⟩ trivial
  intro x l9 hl9
  have hl9 : (List.replicate 9 [0])[x]? = some l9 := hl9
  rw [List.eq_of_mem_replicate (List.mem_of_getElem? hl9)]
  rw [hE0 x]
  exact List.mem_cons_self
end RNLA
section RNLB
theorem mm_130 : MM 130 = MM 70 := rfl
/-- all that was made is left behind -/
theorem rl_drop {nL : Nat} {p : Program} {l : Launch} {e : Env} {R : Room} {s : State} {m : MethodId} {args : Array Value} {below : List Frame} {meth : Method} {c : Code} {D : va_G} {cA : Nat → ClassId} {N0 : Nat} {E : rn_E} {Q : State → Prop} {vs : List (List Nat)} {h : List rn_C} {nx pc : Nat} {al : List (Nat × rn_V)} {c1 z1 c2 z2 : Nat} (hc : c1 ≤ c2) (hz : z1 ≤ z2) (hE : ∀ x : Nat, E.1 x = 0)
    (hw : rn_W nL (p, l, e, R, s, m, args, below, meth, c, D, cA, N0, E, ([], []), Q) (List.replicate 9 [0], [], 0, pc, [], [.inr (.inr (.inr (.inl 2)))], c2, z2)) :
    rn_W nL (p, l, e, R, s, m, args, below, meth, c, D, cA, N0, E, ([], []), Q) (vs, h, nx, pc, al, [.inr (.inr (.inr (.inl 2)))], c1, z1) := by
  intro G ws H locs ls stk hR hL hs
  obtain ⟨q1, q2, q3, q4, q5, q6, q7⟩ := hR
  have key := hw ([], []) [] H locs ls stk ⟨rn_ext.rf, ?_, rfl, ⟨rfl, rfl, ?_⟩, ?_, ⟨?_, ?_⟩, q7⟩ ?_ ?_
  · exact W.widen hc hz key
  · intro x l hl
    have hl : (List.replicate 9 [0])[x]? = some l := hl
    have hm := List.mem_of_getElem? hl
    rw [List.eq_of_mem_replicate hm]
    show E.1 x ∈ [0]
    rw [hE x]
    exact List.mem_cons_self
  · intro k c w hk
    have hk : ([] : List rn_C)[k]? = some c := hk
    simp at hk
  · intro k q hk
    simp at hk
  · intro i j p q hi
    simp at hi
  · intro k q hk
    simp at hk
  · obtain ⟨l9, ⟨g1, g2, -⟩, -⟩ := hL
    exact ⟨[], ⟨g1, g2, fun q hq => by cases hq⟩, trivial⟩
  · match stk, hs with
    | [u], hs => exact ⟨hs.1, trivial⟩
def rl_call : Nat → rn_A → rn_R := fun mu a => match a with
  | (_, [], 0, [.inr (.inr (.inr (.inl 2)))]) => cond (Nat.beq mu 69) (some [rl_o]) none
  | _ => none
def rl_ok (o : rn_O) : Bool := match o with
  | ([], [], 0, .inl (some (.inl (1, 1)))) => true
  | _ => false
theorem rl_ok_eq {o : rn_O} (h : rl_ok o = true) : o = rl_o := by
  unfold rl_ok at h
  split at h
  · rfl
  · cases h
def rl_S1 : rn_S := (List.replicate 9 [0], [], 0, 790, [], [.inr (.inr (.inr (.inl 2)))], 2000, 20000)
theorem rl_t : tf_130 790 = some (rn_ca 69 1 none true 300000 3000000 rn_h0) := rfl
theorem mm_c70 : (MM 70).2.2.2.2.2.1 = 400000 := by decide +kernel
theorem mm_z70 : (MM 70).2.2.2.2.2.2 = 4000000 := by decide +kernel
noncomputable def rl_k : rn_S → rn_R := rn_run0 MM tg_x (fun _ => none) 100 12 130
theorem rl_tail : ra_all rl_ok (rn_ca 69 1 none true 300000 3000000 rn_h0 400000 4000000 rl_k rl_call rl_S1) = true := by decide +kernel
end RNLB
section RNLC
theorem rl_tx : tg_x 130 790 = some (rn_ca 69 1 none true 300000 3000000 rn_h0) := rfl
theorem rl_TS : rn_TS MM (MM 70).1.cls (MM 70).2.1 (MM 70).2.2.1 (rn_hh (MM 70)) 790 (rn_ca 69 1 none true 300000 3000000 rn_h0) := by
  have h := th_x 130 790 _ rl_tx
  rw [mm_130] at h
  exact h
theorem rl_W {o2 : Option (List rn_O)} (ht1 : ra_all rl_ok o2 = true) (ht2 : rn_ca 69 1 none true 300000 3000000 rn_h0 400000 4000000 rl_k rl_call rl_S1 = o2) {o0 : Option (List rn_O)} (hch : ra_all ra_end0 o0 = true) (hrun : rn_run0 MM tg_x gen0 100000 11 129 ra_in = o0) {p : Program} {l : Launch} {e : Env} {R : Room} {s : State} {m : MethodId} {args : Array Value} {below : List Frame} {meth : Method} {c : Code} {D : va_G} {cA : Nat → ClassId} {N0 : Nat} {E : rn_E} {Q : State → Prop} (hst : l.stackTraces = false) (ht : E.2.2.1 = 0) (hE0 : ∀ x : Nat, E.1 x = 0)
    (hF : rn_Fr (MM 70).1.cls (MM 70).2.1 (MM 70).2.2.1 (rn_hh (MM 70)) 12 (MM 70).2.2.2.2.2.1 (MM 70).2.2.2.2.2.2 (p, l, e, R, s, m, args, below, meth, c, D, cA, N0, E, ([], []), Q))
    (hE : rn_End (MM 70).2.2.1 (MM 70).2.1 (MM 70).2.2.2.2.2.1 (MM 70).2.2.2.2.2.2 (p, l, e, R, s, m, args, below, meth, c, D, cA, N0, E, ([], []), Q) rl_o) : rn_W (MM 70).2.2.1 (p, l, e, R, s, m, args, below, meth, c, D, cA, N0, E, ([], []), Q) rl_S1 := by
  have hF' := hF
  have hE' := hE
  rw [mm_c70, mm_z70] at hF hE
  obtain ⟨os, e2, hall⟩ := ra_all_ok ht1
  have hr2 := ht2.trans e2
  clear ht1 ht2
  refine rl_TS (p, l, e, R, s, m, args, below, meth, c, D, cA, N0, E, ([], []), Q) 12 400000 4000000 rl_k rl_call rl_S1 os hF rfl hr2 ?_ ?_ ?_
  · intro S' o' hk hsub
    have hk : rn_run0 MM tg_x (fun _ => none) 100 12 130 S' = some o' := hk
    have key := rn_goW (gen := fun _ => none) (n := 100) (d := 12) (mu := 130) hk (p, l, e, R, s, m, args, below, meth, c, D, cA, N0, E, ([], []), Q) (by rw [mm_130]; exact hF') (by
      rw [mm_130]
      intro o ho
      rw [rl_ok_eq (hall o (hsub o ho))]
      exact hE')
    rw [mm_130] at key
    exact key
  · intro mu a o' hc
    unfold rl_call at hc
    split at hc
    · rename_i vs0
      cases hb : Nat.beq mu 69 with
      | false => rw [hb] at hc; cases hc
      | true =>
        rw [hb] at hc
        have e9 := Nat.eq_of_beq_eq_true hb
        subst e9
        cases hc
        exact rl_CM hch hrun hst ht hE0 vs0
    · cases hc
  · intro o ho
    rw [rl_ok_eq (hall o ho)]
    exact hE
/-- the law, from its entry to its end -/
theorem rl_law {gen : Nat → Option (rn_A → rn_O → rn_O)} {o1 : Option (List rn_O)} (hl1 : ra_all rl_end o1 = true) (hl2 : rn_run0 MM tg_x gen 100000 12 70 ra_in = o1) {o0 : Option (List rn_O)} (hch : ra_all ra_end0 o0 = true) (hrun : rn_run0 MM tg_x gen0 100000 11 129 ra_in = o0) {p : Program} {l : Launch} {e : Env} {R : Room} {s : State} {m : MethodId} {args : Array Value} {below : List Frame} {meth : Method} {c : Code} {D : va_G} {cA : Nat → ClassId} {N0 : Nat} {E : rn_E} {Q : State → Prop} (hst : l.stackTraces = false) (ht : E.2.2.1 = 0) (hE0 : ∀ x : Nat, E.1 x = 0)
    (hF : rn_Fr (MM 70).1.cls (MM 70).2.1 (MM 70).2.2.1 (rn_hh (MM 70)) 12 (MM 70).2.2.2.2.2.1 (MM 70).2.2.2.2.2.2 (p, l, e, R, s, m, args, below, meth, c, D, cA, N0, E, ([], []), Q))
    (hE : rn_End (MM 70).2.2.1 (MM 70).2.1 (MM 70).2.2.2.2.2.1 (MM 70).2.2.2.2.2.2 (p, l, e, R, s, m, args, below, meth, c, D, cA, N0, E, ([], []), Q) rl_o) : rn_W (MM 70).2.2.1 (p, l, e, R, s, m, args, below, meth, c, D, cA, N0, E, ([], []), Q) ra_in := by
  obtain ⟨os, e0, hall⟩ := ra_all_ok hl1
  have hr := hl2.trans e0
  clear hl1 hl2
  refine rn_goW (gen := gen) (n := 100000) (d := 12) (mu := 70) hr (p, l, e, R, s, m, args, below, meth, c, D, cA, N0, E, ([], []), Q) hF fun o ho => ?_
  clear hr
  have h1 := hall o ho
  obtain ⟨vs, h, nx, r⟩ := o
  unfold rl_end at h1
  dsimp only at h1
  split at h1
  · rename_i pc al c9 z9
    rw [Bool.and_eq_true, Bool.and_eq_true] at h1
    obtain ⟨⟨k1, k2⟩, k3⟩ := h1
    have k1 := Nat.eq_of_beq_eq_true k1
    subst k1
    show rn_W (MM 70).2.2.1 (p, l, e, R, s, m, args, below, meth, c, D, cA, N0, E, ([], []), Q) (vs, h, nx, 790, al, [.inr (.inr (.inr (.inl 2)))], c9, z9)
    exact rl_drop (Nat.le_of_ble_eq_true k2) (Nat.le_of_ble_eq_true k3) hE0 (rl_W rl_tail rfl hch hrun hst ht hE0 hF hE)
  · cases h1
end RNLC
