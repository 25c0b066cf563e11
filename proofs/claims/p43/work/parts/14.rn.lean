section RNM
def rn_arg : Nat → List rn_V → List (Nat × rn_V)
  | _, [] => []
  | i, a :: as => (i, a) :: rn_arg (cond (Nat.beq (rn_cat a) 2) (i + 2) (i + 1)) as
theorem rn_arg_ok {E : rn_E} {G : rn_G} : ∀ {as : List rn_V} {vs : List Value} (i : Nat), rn_gs E G as vs → rn_gl E G (rn_arg i as) (lv_args i vs)
  | [], [], _, _ => trivial
  | a :: as, v :: vs, i, h => by
    refine ⟨rfl, h.1, ?_⟩
    have e : (cond (Nat.beq (rn_cat a) 2) (i + 2) (i + 1)) = (if v.category = 2 then i + 2 else i + 1) := by
      rw [h.1.cat]
      by_cases q : rn_cat a = 2
      · rw [if_pos q, q]; rfl
      · rw [if_neg q]
        cases hb : Nat.beq (rn_cat a) 2 with
        | true => exact absurd (Nat.eq_of_beq_eq_true hb) q
        | false => rfl
    show rn_gl E G (rn_arg (cond (Nat.beq (rn_cat a) 2) (i + 2) (i + 1)) as) (lv_args (if v.category = 2 then i + 2 else i + 1) vs)
    rw [e]
    exact rn_arg_ok _ h.2
  | [], _ :: _, _, h => h.elim
  | _ :: _, [], _, h => h.elim
theorem rn_cat12 (v : Value) : v.category = 1 ∨ v.category = 2 := by cases v <;> simp [Value.category]
theorem rn_sl : ∀ vs : List Value, (lg_sl vs).length = (vs.map fun v => v.category).sum
  | [] => rfl
  | v :: vs => by
    have e : lg_sl (v :: vs) = (if v.category = 2 then [.val v, .second] else [.val v]) ++ lg_sl vs := rfl
    rw [e, List.length_append, rn_sl vs, List.map_cons, List.sum_cons]
    rcases rn_cat12 v with q | q
    · rw [q, if_neg (by decide)]; rfl
    · rw [q, if_pos rfl]; rfl
def rn_ent (a : rn_A) : rn_S := (a.1, a.2.1, a.2.2.1, 0, rn_arg 0 a.2.2.2, [], 0, 0)
/-- no end of these is a place where the run was stopped -/
def rn_nocut : List rn_O → Bool
  | [] => true
  | o :: l => (match o.2.2.2 with
    | .inr (.inr _) => false
    | _ => true) && rn_nocut l
theorem rn_nocut_ok : ∀ {l : List rn_O}, rn_nocut l = true → ∀ o ∈ l, ∀ q, o.2.2.2 ≠ .inr (.inr q)
  | [], _, o, ho, _ => by cases ho
  | a :: l, h, o, ho, q => by
    unfold rn_nocut at h
    rw [Bool.and_eq_true] at h
    rcases List.mem_cons.mp ho with e | ho
    · subst e
      intro hq
      have h1 := h.1
      rw [hq] at h1
      cases h1
    · exact rn_nocut_ok h.2 o ho q
noncomputable def rn_go0 (M : Nat → rn_D) (T : Nat → Nat → Option rn_T) (gen : Nat → Option (rn_A → rn_O → rn_O)) (ih : Nat → Nat → rn_S → rn_R) (d mu : Nat) (S : rn_S) : rn_R := match T mu S.2.2.2.1 with
  | none => none
  | some tr => tr (M mu).2.2.2.2.2.1 (M mu).2.2.2.2.2.2 (fun S' => ih d mu S') (fun nu a => match d with
    | 0 => none
    | d' + 1 => cond (Nat.ble (a.2.2.2.map rn_cat).sum (M nu).2.2.1) (match ih d' nu (rn_ent a) with
      | none => none
      | some os => cond (rn_nocut os) (some (rn_gm ((gen nu).map fun f => f a) os)) none) none) S
/-- the run: fuel, depth, method, state -/
noncomputable def rn_run0 (M : Nat → rn_D) (T : Nat → Nat → Option rn_T) (gen : Nat → Option (rn_A → rn_O → rn_O)) (n : Nat) : Nat → Nat → rn_S → rn_R := Nat.rec (motive := fun _ => Nat → Nat → rn_S → rn_R) (fun _ _ _ => none) (fun _ ih => rn_go0 M T gen ih) n
abbrev rn_hh (Y : rn_D) : rn_H := (Y.2.2.2.2.1, Y.1.name, Y.2.2.2.1)
/-- an end of a method is what its contract says -/
theorem rn_end_ok {Y : rn_D} {p : Program} {l : Launch} {e : Env} {R : Room} {s : State} {m : MethodId} {args : Array Value} {below : List Frame} {meth : Method} {c : Code} {D : va_G} {cA : Nat → ClassId} {N0 : Nat} {E : rn_E} {G0 : rn_G} {outs : List rn_O} {g : Option (rn_O → rn_O)} {os : List rn_O} {mc ms : Nat} (hos : outs = rn_gm g os)
    (hx : p.tables.exec = Jvm.exec) (hb : c.code = Y.2.1) (hlk : meth.locks = false) {o : rn_O} (ho : o ∈ os) (hcut : ∀ q, o.2.2.2 ≠ .inr (.inr q)) :
    rn_End Y.2.2.1 Y.2.1 mc ms (p, l, e, R, s, m, args, below, meth, c, D, cA, N0, E, G0, vx_MQ below (rn_Qc D cA N0 E G0 outs) (rn_XC D cA N0 E G0 outs) args s mc ms (rn_hi N0)) o := by
  unfold rn_End
  dsimp only
  split
  · rename_i r hr
    intro G ws H locs hR pc ls u i hro hri hrp hd
    obtain ⟨hq1, hq2, hq3, hq4, hq5, hq6, hq7⟩ := hR
    have hq7 : va_S (rn_hi N0) s.heap H locs := hq7
    have hQ : ∀ t : State, t.heap = H → rn_Qc D cA N0 E G0 outs args s (.returned u) t := by
      intro t ht
      have hpo : rn_Po D cA E N0 G0 G o t := ⟨ws, hq1, hq2, hq3, hq4, by rw [ht]; exact hq5, hq6⟩
      obtain ⟨b, hb1, hb2, hb3, -⟩ := rn_gm_ok (g := g) ho hpo
      obtain ⟨r', h1, h2⟩ := hb3 r u hr hro
      exact ⟨⟨b, by rw [hos]; exact hb1, r', u, G, h1, rfl, h2, hb2⟩, by rw [ht]; exact hq7.1, fun q g1 g2 => by rw [ht]; exact hq7.2.1 q g1 g2⟩
    apply vx_ret
    rcases hri with ⟨rfl, rfl⟩ | ⟨y, rfl, rfl⟩ | ⟨y, rfl, rfl⟩ | ⟨hu, rfl⟩
    · exact W.vret (p := p) (l := l) (e := e) (R := R) hx hb hrp (fun t ht _ => hQ t ht) hq7.2.2 hd hlk
    · obtain ⟨ty, h1, h2, -⟩ := hrp
      exact W.zret (p := p) (l := l) (e := e) (R := R) hx hb h1 h2 (fun t ht _ => hQ t ht) hq7.2.2 hd hlk
    · obtain ⟨ty, h1, -, h3⟩ := hrp
      have e9 : ty = .long := by
        cases ty <;> first | rfl | cases h3
      subst e9
      exact W.lret (p := p) (l := l) (e := e) (R := R) hx hb h1 (fun t ht _ => hQ t ht) hq7.2.2 hd hlk
    · obtain ⟨v, rfl, hv⟩ : ∃ v, u = some v ∧ (v = .null ∨ ∃ a, v = .ref a) := by
        rcases hu with rfl | ⟨a, rfl⟩
        · exact ⟨_, rfl, Or.inl rfl⟩
        · exact ⟨_, rfl, Or.inr ⟨a, rfl⟩⟩
      obtain ⟨ty, h1, -, h3⟩ := hrp
      have e9 : (∃ n, ty = .object n) ∨ ∃ t, ty = .array t := by
        rcases hv with rfl | ⟨a, rfl⟩ <;> cases ty <;> first | exact Or.inl ⟨_, rfl⟩ | exact Or.inr ⟨_, rfl⟩ | cases h3
      exact W.aret (p := p) (l := l) (e := e) (R := R) hx hb h1 e9 hv (fun t ht _ => hQ t ht) hq7.2.2 hd hlk
  · rename_i x hr
    refine ⟨_, _, rfl, fun G ws H locs hR t hal hsz hkp => ?_⟩
    obtain ⟨hq1, hq2, hq3, hq4, hq5, hq6, hq7⟩ := hR
    have hq7 : va_S (rn_hi N0) s.heap H locs := hq7
    have hpo : rn_Po D cA E N0 G0 G o t := ⟨ws, hq1, hq2, hq3, hq4, va_P.kept hq5 (fun k q hk => hkp q.1 (hq5 k q hk).lt), hq6⟩
    obtain ⟨b, hb1, hb2, -, hb4⟩ := rn_gm_ok (g := g) ho hpo
    exact ⟨⟨b, by rw [hos]; exact hb1, x, G, hb4 x hr, rfl, hb2⟩, Nat.le_trans hq7.1 hsz, fun q g1 g2 => by rw [hkp q (Nat.lt_of_lt_of_le g1 hq7.1)]; exact hq7.2.1 q g1 g2⟩
  · rename_i pc al st c0 z0 hr
    exact absurd hr (hcut _)
theorem rn_sound {M : Nat → rn_D} {T : Nat → Nat → Option rn_T} {gen : Nat → Option (rn_A → rn_O → rn_O)} (hT : ∀ (mu pc : Nat) (tr : rn_T), T mu pc = some tr → rn_TS M (M mu).1.cls (M mu).2.1 (M mu).2.2.1 (rn_hh (M mu)) pc tr)
    (hP : ∀ (mu : Nat) (tr : rn_T), T mu 0 = some tr → plainName (M mu).1.cls = true) : ∀ (n d mu : Nat) (S : rn_S) (outs : List rn_O), rn_run0 M T gen n d mu S = some outs →
    ∀ B : rn_B, rn_Fr (M mu).1.cls (M mu).2.1 (M mu).2.2.1 (rn_hh (M mu)) d (M mu).2.2.2.2.2.1 (M mu).2.2.2.2.2.2 B → (∀ o ∈ outs, rn_End (M mu).2.2.1 (M mu).2.1 (M mu).2.2.2.2.2.1 (M mu).2.2.2.2.2.2 B o) → rn_W (M mu).2.2.1 B S := by
  intro n
  induction n with
  | zero =>
    intro d mu S outs h
    cases h
  | succ n ih =>
    intro d mu S outs h B hF hE
    have h : rn_go0 M T gen (rn_run0 M T gen n) d mu S = some outs := h
    unfold rn_go0 at h
    cases ht : T mu S.2.2.2.1 with
    | none => rw [ht] at h; cases h
    | some tr =>
      rw [ht] at h
      dsimp only at h
      refine hT mu _ tr ht B d _ _ _ _ S outs hF rfl h ?_ ?_ hE
      · intro S' o' hk hsub
        exact ih d mu S' o' hk B hF (fun o ho => hE o (hsub o ho))
      · intro nu a o' hc
        obtain ⟨p0, l, e0, R0, s0, m0, args0, below0, meth0, c0, D, cA, N0, E, G0, Q0⟩ := B
        obtain ⟨-, -, -, -, -, -, -, -, -, -, -, -, -, -, hst⟩ := hF
        cases d with
        | zero => cases hc
        | succ d' =>
          dsimp only at hc
          cases hbl : Nat.ble (a.2.2.2.map rn_cat).sum (M nu).2.2.1 with
          | false => rw [hbl] at hc; cases hc
          | true =>
            rw [hbl, cond_true] at hc
            have hbl := Nat.le_of_ble_eq_true hbl
            cases hr : rn_run0 M T gen n d' nu (rn_ent a) with
            | none => rw [hr] at hc; cases hc
            | some os =>
              rw [hr] at hc
              dsimp only at hc
              cases hnc : rn_nocut os with
              | false => rw [hnc] at hc; cases hc
              | true =>
                rw [hnc, cond_true] at hc
                have hos : o' = rn_gm ((gen nu).map fun f => f a) os := (Option.some.inj hc).symm
                have hplain : plainName (M nu).1.cls = true := by
                  cases n with
                  | zero => cases hr
                  | succ n =>
                    have hr : rn_go0 M T gen (rn_run0 M T gen n) d' nu (rn_ent a) = some os := hr
                    unfold rn_go0 at hr
                    cases ht0 : T nu (rn_ent a).2.2.2.1 with
                    | none => rw [ht0] at hr; cases hr
                    | some tr0 => exact hP nu tr0 ht0
                refine ⟨d', rfl, fun G => ?_⟩
                have body : ∀ (p : Program) (e : Env) (s : State) (m : MethodId) (args : Array Value) (below : List Frame) (meth : Method) (c : Code) (s₁ : State), BodyLoose p l (M nu).1 (headSpec (rn_ws (M nu)) (rn_rm d' (M nu).2.2.2.2.2.1 (M nu).2.2.2.2.2.2)) (M nu).2.1 (M nu).2.2.1 (M nu).2.2.2.1 e s m args below meth c s₁ → c.maxLocals = (M nu).2.2.1 → c.exceptionTable.toList = tableOf (M nu).2.2.2.2.1 → rn_Pc D cA N0 E G a args s →
                    W p l e (headSpec (rn_ws (M nu)) (rn_rm d' (M nu).2.2.2.2.2.1 (M nu).2.2.2.2.2.2)).room s m args below meth c s.heap [] 0 0 (vx_MQ below (rn_Qc D cA N0 E G o') (rn_XC D cA N0 E G o') args s (M nu).2.2.2.2.2.1 (M nu).2.2.2.2.2.2 (rn_hi N0)) (entryFrame m args (M nu).2.2.1) := by
                  intro p e s m args below meth c s₁ B hml htb hv
                  obtain ⟨ws9, av, rfl, hgs, hv1, hv2, hv3, hv4, hv5, hv6, hv7, hv8⟩ := hv
                  have hts0 := atoms_spec (ws := rn_ws (M nu)) B.pre
                  have hts : ∀ w ∈ rn_ALL, w.before av.toArray s = true := fun w hw => hts0 w (List.mem_cons_of_mem _ hw)
                  have hFr : rn_Fr (M nu).1.cls (M nu).2.1 (M nu).2.2.1 (rn_hh (M nu)) d' (M nu).2.2.2.2.2.1 (M nu).2.2.2.2.2.2 (p, l, e, (headSpec (rn_ws (M nu)) (rn_rm d' (M nu).2.2.2.2.2.1 (M nu).2.2.2.2.2.2)).room, s, m, av.toArray, below, meth, c, D, cA, N0, E, G, vx_MQ below (rn_Qc D cA N0 E G o') (rn_XC D cA N0 E G o') av.toArray s (M nu).2.2.2.2.2.1 (M nu).2.2.2.2.2.2 (rn_hi N0)) :=
                    ⟨B.exec, B.bytes, hml, findClass_of_methodNamed B.named, hts, B.notSynchronized, hv6, hv7, hv8, ⟨htb, (name_of_methodNamed B.named B.method).1, B.returns⟩, Nat.le_refl _, Nat.le_refl _, Nat.le_refl _, Nat.le_refl _, hst⟩
                  have key := ih d' nu (rn_ent a) os hr _ hFr (fun o ho => rn_end_ok hos B.exec B.bytes B.notSynchronized ho (rn_nocut_ok hnc o ho))
                  have hl := lv_entry av (n := (M nu).2.2.1) (by rw [rn_sl, rn_gs.cats hgs]; exact hbl)
                  rw [lg_entry_eq]
                  exact key G ws9 s.heap [] _ [] ⟨rn_ext.rf, hv1, hv2, hv3, hv4, hv5, va_S.rf⟩ ⟨_, hl, rn_arg_ok 0 hgs⟩ trivial
                cases hhd : (M nu).2.2.2.2.1 with
                | nil =>
                  refine vx_ofW (cc := (M nu).2.1) (maxL := (M nu).2.2.1) (ret := (M nu).2.2.2.1) hplain (rn_we hhd) ?_
                  intro p e s m args below meth c s₁ B hml htb hv
                  refine body p e s m args below meth c s₁ B hml ?_ hv
                  rw [hhd]
                  cases htl : c.exceptionTable.toList with
                  | nil => rfl
                  | cons x xs => exact (htb x (by rw [htl]; exact List.mem_cons_self)).elim
                | cons q hh =>
                  refine vx_ofWH (cc := (M nu).2.1) (maxL := (M nu).2.2.1) (ret := (M nu).2.2.2.1) (hh := (M nu).2.2.2.2.1) hplain (rn_weX hhd) ?_
                  intro p e s m args below meth c s₁ B hml hv
                  refine body p e s m args below meth c s₁ B hml ?_ hv
                  have hts0 := atoms_spec (ws := rn_ws (M nu)) B.pre
                  exact vx_table (x := (M nu).1) B (hts0 _ (by rw [rn_weX hhd]; exact List.mem_cons_self))
end RNM
