section RNJ
theorem rn_F.ride {E : rn_E} {N0 : Nat} {s U : State} (hW : s.WarmedH U.vm) (hq : ∀ a : Nat, a < s.heap.size → ¬ rn_hi N0 a → U.heap[a]? = s.heap[a]?) (h : rn_F E N0 s) : rn_F E N0 U := by
  obtain ⟨h1, h2, h3, ⟨f, h4⟩, ⟨L, xs, h5, h6⟩, h7, h8, h9, h10, h11, h12, h13⟩ := h
  refine ⟨vx_Zq.moved hW.alike (h1.kept hq), vx_Zq.moved hW.alike (h2.kept hq), va_Z.moved hW.alike (h3.kept hq), ⟨f, va_T.moved hW.alike (h4.kept hq)⟩, ⟨L, xs, h5, va_X.moved hW.alike (h6.kept ?_)⟩, h7, h8, ?_, fun o k tx ho => ?_, fun C hC => va_AO.moved hW.alike (h11 C hC), fun X T hX => va_Nc.moved hW.alike (h12 X T hX), h13⟩
  · obtain ⟨scr, hs, -⟩ := h6
    exact hq _ (Array.getElem?_eq_some_iff.mp hs).1 (Nat.not_le.mpr h7)
  · intro w hw hb
    have hz := h9 w hw hb
    revert hz
    cases w with
    | fieldLinkNest a i b n d h => intro hz; exact va_Nw.warmF hW hz
    | methodLinkNest a i x h => intro hz; exact va_Nw.warmM hW hz
    | castable C T => intro hz; exact va_Nw.warmC hW hz
    | declares x => intro hz; exact va_Nw.warmD hW hz
    | _ => cases hb
  · obtain ⟨a, ha⟩ := h10 o k tx ho
    exact ⟨a, ha.warm hW⟩
theorem rn_Pc.blind {D : va_G} {cA : Nat → ClassId} {N0 : Nat} {E : rn_E} {G : rn_G} {a : rn_A} : FrameBlind (rn_Pc D cA N0 E G a) := by
  rintro v U g mk ⟨ws, av, h1, h2, h3, h4, h5, h6, h7, h8, h9, h10⟩
  exact ⟨ws, av, h1, h2, h3, h4, h5, h6, h7, va_K.moved (u := U) (U := U.calling g mk v) (Vm.Alike.refl U.vm) h8, h9, rn_F.ride (s := U) (U := U.calling g mk v) (State.WarmedH.refl U) (fun _ _ _ => rfl) h10⟩
/-- a callee that doesn't throw -/
theorem rn_met {l : Launch} {y : MethodName} {ws : List Cond} {rm : Room} {Pc : Array Value → State → Prop} {Qc : Array Value → State → Outcome → State → Prop} {XC : String → State → State → Prop} {mc ms : Nat} {free : Addr → Prop} (h : vx_Met l y ws rm Pc Qc XC mc ms free) (hX : ∀ X st t, ¬ XC X st t) : Met l y ws rm Pc Qc mc ms free := by
  refine MetFree.mono h (fun _ _ h => h) (fun _ _ _ _ _ h => h) (fun a s o t _ h => ?_)
  rcases h with h | ⟨q, -, X, ce, L, h, -⟩
  · exact h
  · exact absurd h (hX _ _ _)
theorem rn_run {p : Program} {l : Launch} {e : Env} {R : Room} {s : State} {m : MethodId} {args : Array Value} {below : List Frame} {meth : Method} {c : Code} {H : Heap} {locs : List Loc} {cells slots mc ms : Nat} {g : JFrame} {rest : List Value} {Qa : State → Outcome → State → Prop} {XC : String → State → State → Prop} {free : Addr → Prop} (h : va_Run p l e R s m args below meth c H locs cells slots mc ms g rest Qa free) : vx_Run p l e R s m args below meth c H locs cells slots mc ms g rest Qa XC free := by
  intro T hT X
  exact Or.inl (h T hT X)
/-- what a call's place gives: by the callee's contract the call comes back, or throws -/
def rn_Si (M : Nat → rn_D) (own : String) (cc : ByteArray) (nL pc mu n : Nat) (rc : Option Nat) (thr : Bool) : Prop :=
  ∀ (p : Program) (l : Launch) (e : Env) (R : Room) (s : State) (m : MethodId) (args : Array Value) (below : List Frame) (meth : Method) (c : Code) (N0 : Nat) (E : rn_E) (H : Heap) (locs : List Loc) (cells slots d : Nat) (ls : Array Slot) (av rest : List Value) (Pc : Array Value → State → Prop) (Qc : Array Value → State → Outcome → State → Prop) (XC : String → State → State → Prop),
    CallFix p m c cc nL s args rn_ALL own → rn_F E N0 s → vx_Met l (M mu).1 (rn_ws (M mu)) (rn_rm d (M mu).2.2.2.2.2.1 (M mu).2.2.2.2.2.2) Pc Qc XC (M mu).2.2.2.2.2.1 (M mu).2.2.2.2.2.2 (rn_hi N0) → (thr = false → ∀ X st t, ¬ XC X st t) →
    FrameBlind Pc → (∀ U : State, U.heap = H → s.WarmedH U.vm → Pc av.toArray U) →
    (∀ ci, rc = some ci → ∃ (r : vw_C) (b : Nat) (av' : List Value), rn_cl[ci]? = some r ∧ av = .ref b :: av' ∧ ∃ cellB : Cell, H[b]? = some cellB ∧ cellB.vm.isStatics = false ∧ s.vm.findClass r.1 = some cellB.cls) →
    (rc = none → thr = false → ∀ a, av.head? = some a → n = 0 ∨ a = a) → av.length = n → ls.size = nL → (rest.map fun v => v.category).sum ≤ 8 → cells + (M mu).2.2.2.2.2.1 ≤ R.cells → slots + (M mu).2.2.2.2.2.2 ≤ R.slots → d + 9 ≤ R.frames → 200 * (d + 2) ≤ R.locals →
    vx_Run p l e R s m args below meth c H locs cells slots (M mu).2.2.2.2.2.1 (M mu).2.2.2.2.2.2 (F0 m pc ls (av.reverse ++ rest)) rest (Qc av.toArray) XC (rn_hi N0)
section
variable {M : Nat → rn_D} {own : String} {cc : ByteArray} {nL pc mu n index : Nat}
/-- what the tables say of a callee -/
abbrev rn_cw (own : String) (index : Nat) (Y : rn_D) (n : Nat) : Prop := (Y.1.cls ≠ "java/lang/invoke/MethodHandle" ∧ Y.1.cls ≠ "java/lang/invoke/VarHandle" ∧ (parseMethodDescriptor Y.1.desc).map (fun d => d.parameters.length) = some n) ∧ Y.2.2.1 ≤ 181 ∧ Cond.initialized Y.1.cls ∈ rn_ALL
theorem rn_gw {Y : rn_D} (h0 : Y.2.2.2.2.1 = []) (hc : Cond.code Y.1 Y.2.1 Y.2.2.1 Y.2.2.2.1 ∈ rn_ALL) : ∀ w ∈ rn_ws Y, w ∈ rn_ALL := by
  intro w hw
  unfold rn_ws at hw
  rw [h0] at hw
  rcases List.mem_cons.mp hw with e | h
  · rw [e]; exact hc
  · exact h
theorem rn_we {Y : rn_D} (h0 : Y.2.2.2.2.1 = []) : rn_ws Y = Cond.code Y.1 Y.2.1 Y.2.2.1 Y.2.2.2.1 :: rn_ALL := by
  unfold rn_ws
  rw [h0]
theorem rn_gwX {Y : rn_D} {q : Nat × Nat × Nat × Nat} {hh : List (Nat × Nat × Nat × Nat)} (h0 : Y.2.2.2.2.1 = q :: hh) (hc : Cond.codeWith Y.1 Y.2.1 Y.2.2.1 Y.2.2.2.1 Y.2.2.2.2.1 ∈ rn_ALL) : ∀ w ∈ rn_ws Y, w ∈ rn_ALL := by
  intro w hw
  unfold rn_ws at hw
  rw [h0] at hw
  rcases List.mem_cons.mp hw with e | h
  · rw [e]; rw [h0] at hc; exact hc
  · exact h
theorem rn_weX {Y : rn_D} {q : Nat × Nat × Nat × Nat} {hh : List (Nat × Nat × Nat × Nat)} (h0 : Y.2.2.2.2.1 = q :: hh) : rn_ws Y = Cond.codeWith Y.1 Y.2.1 Y.2.2.1 Y.2.2.2.1 Y.2.2.2.2.1 :: rn_ALL := by
  unfold rn_ws
  rw [h0]
theorem rn_ap {w1 : List Cond} {ws : List Cond} (h1 : ∀ w ∈ w1, w ∈ rn_ALL) (h2 : ∀ w ∈ ws, w ∈ rn_ALL) : GoodIn rn_ALL (w1 ++ ws) := rn_GI fun w h => (List.mem_append.mp h).elim (h1 w) (h2 w)
theorem rn_rw (av' : List Value) (b : Nat) (rest : List Value) : (Value.ref b :: av').reverse ++ rest = av'.reverse ++ Value.ref b :: rest := by
  rw [List.reverse_cons, List.append_assoc]
  rfl
/-- a public method, or one of the own class, of a thing of the world -/
theorem rn_siV {ci : Nat} {r : vw_C} (hr : rn_cl[ci]? = some r) (hd : decode cc pc = .ok (.invokevirtual index, 3)) (h0 : (M mu).2.2.2.2.1 = []) (hy : (M mu).1.cls = r.1) (hw : rn_cw own index (M mu) n) (hc : Cond.code (M mu).1 (M mu).2.1 (M mu).2.2.1 (M mu).2.2.2.1 ∈ rn_ALL) (hw2 : ∀ w ∈ [Cond.methodLink own index (M mu).1, .instanceMethod (M mu).1, .selects r.1 (M mu).1 (M mu).1, .initialized r.1], w ∈ rn_ALL) : rn_Si M own cc nL pc mu (n + 1) (some ci) true := by
  intro p l e R s m args below meth c N0 E H locs cells slots d ls av rest Pc Qc XC hS hFF hM _ hbl hPc hrv _ hn hls hrest hf1 hf2 hR1 hR2
  obtain ⟨r', b, av', hr', rfl, hcell⟩ := hrv ci rfl
  cases Option.some.inj (hr.symm.trans hr')
  have hlen : av'.length = n := Nat.succ.inj hn
  rw [rn_rw]
  exact vx_runV (As := av') (rest := rest) hS hM (cwV n hS.2.2.2.2 (rn_ap hw2 (rn_gw h0 hc)) (rn_we h0) rfl rfl ⟨hy, hw.1⟩ ⟨by show d + 8 + 1 ≤ _; omega, by show 8 + ((M mu).2.2.1 + 11) + 200 * (d + 1) ≤ _; have := hw.2.1; omega⟩) ⟨hbl, hcell, hPc⟩ rfl hlen hls rfl (by show 2 * 0 + _ ≤ 8; omega) hd ⟨hf1, hf2⟩
/-- a static method -/
theorem rn_siS (hd : decode cc pc = .ok (.invokestatic index, 3)) (h0 : (M mu).2.2.2.2.1 = []) (hw : rn_cw own index (M mu) n) (hc : Cond.code (M mu).1 (M mu).2.1 (M mu).2.2.1 (M mu).2.2.2.1 ∈ rn_ALL) (hw2 : ∀ w ∈ [Cond.methodLink own index (M mu).1, .static (M mu).1, .initialized (M mu).1.cls], w ∈ rn_ALL) : rn_Si M own cc nL pc mu n none true := by
  intro p l e R s m args below meth c N0 E H locs cells slots d ls av rest Pc Qc XC hS hFF hM _ hbl hPc hrv _ hn hls hrest hf1 hf2 hR1 hR2
  exact vx_runS (As := av) (rest := rest) hS hM (va_cwS n hS.2.2.2.2 (rn_ap hw2 (rn_gw h0 hc)) (rn_we h0) rfl rfl hw.1 ⟨by show d + 8 + 1 ≤ _; omega, by show 8 + ((M mu).2.2.1 + 11) + 200 * (d + 1) ≤ _; have := hw.2.1; omega⟩) ⟨hbl, hPc⟩ rfl hn hls rfl (by show 2 * 0 + _ ≤ 8; omega) hd ⟨hf1, hf2⟩
/-- a static method with handlers of its own -/
theorem rn_siSX {q : Nat × Nat × Nat × Nat} {hh : List (Nat × Nat × Nat × Nat)} (hd : decode cc pc = .ok (.invokestatic index, 3)) (h0 : (M mu).2.2.2.2.1 = q :: hh) (hw : rn_cw own index (M mu) n) (hc : Cond.codeWith (M mu).1 (M mu).2.1 (M mu).2.2.1 (M mu).2.2.2.1 (M mu).2.2.2.2.1 ∈ rn_ALL) (hw2 : ∀ w ∈ [Cond.methodLink own index (M mu).1, .static (M mu).1, .initialized (M mu).1.cls], w ∈ rn_ALL) : rn_Si M own cc nL pc mu n none true := by
  intro p l e R s m args below meth c N0 E H locs cells slots d ls av rest Pc Qc XC hS hFF hM _ hbl hPc hrv _ hn hls hrest hf1 hf2 hR1 hR2
  exact vx_runSX (As := av) (rest := rest) hS hM (vx_cwSW n hS.2.2.2.2 (rn_ap hw2 (rn_gwX h0 hc)) (rn_weX h0) rfl rfl hw.1 ⟨by show d + 8 + 1 ≤ _; omega, by show 8 + ((M mu).2.2.1 + 11) + 200 * (d + 1) ≤ _; have := hw.2.1; omega⟩) ⟨hbl, hPc⟩ rfl hn hls rfl (by show 2 * 0 + _ ≤ 8; omega) hd ⟨hf1, hf2⟩
/-- a constructor -/
theorem rn_siI {ci : Nat} (hd : decode cc pc = .ok (.invokespecial index, 3)) (h0 : (M mu).2.2.2.2.1 = []) (hret : (M mu).2.2.2.1 = none) (hnm : (M mu).1.name = "<init>") (hw : rn_cw own index (M mu) n) (hc : Cond.code (M mu).1 (M mu).2.1 (M mu).2.2.1 none ∈ rn_ALL) (hw2 : ∀ w ∈ [Cond.methodLink own index (M mu).1, .instanceMethod (M mu).1], w ∈ rn_ALL) : rn_Si M own cc nL pc mu (n + 1) (some ci) false := by
  intro p l e R s m args below meth c N0 E H locs cells slots d ls av rest Pc Qc XC hS hFF hM hX hbl hPc hrv _ hn hls hrest hf1 hf2 hR1 hR2
  obtain ⟨r', b, av', hr', rfl, hcell⟩ := hrv ci rfl
  have hlen : av'.length = n := Nat.succ.inj hn
  rw [rn_rw]
  exact rn_run (va_runI (As := av') (rest := rest) hS (rn_met hM (hX rfl)) (cwI n hS.2.2.2.2 (rn_GI (rn_gw h0 (by rw [hret]; exact hc))) (by rw [rn_we h0, hret]) rfl rfl (hS.2.2.2.2 _ hw.2.2) (hS.2.2.2.2 _ (hw2 _ List.mem_cons_self)) (hS.2.2.2.2 _ (hw2 _ (List.mem_cons_of_mem _ List.mem_cons_self))) hnm hw.1 ⟨by show d + 8 + 1 ≤ _; omega, by show 8 + ((M mu).2.2.1 + 11) + 200 * (d + 1) ≤ _; have := hw.2.1; omega⟩) ⟨hbl, hPc⟩ rfl hlen hls rfl (by show 2 * 0 + _ ≤ 8; omega) hd ⟨hf1, hf2⟩)
/-- a nest mate's method -/
theorem rn_siVN {ci : Nat} {r : vw_C} {host : String} (hr : rn_cl[ci]? = some r) (hd : decode cc pc = .ok (.invokevirtual index, 3)) (h0 : (M mu).2.2.2.2.1 = []) (hw : rn_cw own index (M mu) n) (hc : Cond.code (M mu).1 (M mu).2.1 (M mu).2.2.1 (M mu).2.2.2.1 ∈ rn_ALL) (hl : Cond.methodLinkNest own index (M mu).1 host ∈ lw_tbl) (hw2 : ∀ w ∈ [Cond.instanceMethod (M mu).1, .selects r.1 (M mu).1 (M mu).1], w ∈ rn_ALL) : rn_Si M own cc nL pc mu (n + 1) (some ci) false := by
  intro p l e R s m args below meth c N0 E H locs cells slots d ls av rest Pc Qc XC hS hFF hM hX hbl hPc hrv _ hn hls hrest hf1 hf2 hR1 hR2
  obtain ⟨r', b, av', hr', rfl, hcell⟩ := hrv ci rfl
  cases Option.some.inj (hr.symm.trans hr')
  have hlen : av'.length = n := Nat.succ.inj hn
  rw [rn_rw]
  exact rn_run (va_runVN (As := av') (rest := rest) hS (rn_met hM (hX rfl)) ⟨va_cnB n hS.2.2.2.2 (rn_GI (rn_gw h0 hc)) (rn_we h0) rfl rfl (hFF.bad _ hl rfl) (hS.2.2.2.2 _ hw.2.2) hw.1 ⟨by show d + 8 + 1 ≤ _; omega, by show 8 + ((M mu).2.2.1 + 11) + 200 * (d + 1) ≤ _; have := hw.2.1; omega⟩, hS.2.2.2.2 _ (hw2 _ List.mem_cons_self), hS.2.2.2.2 _ (hw2 _ (List.mem_cons_of_mem _ List.mem_cons_self))⟩ ⟨hbl, hcell, hPc⟩ rfl hlen hls rfl (by show 2 * 0 + _ ≤ 8; omega) hd ⟨hf1, hf2⟩)
theorem rn_siSN {host : String} (hd : decode cc pc = .ok (.invokestatic index, 3)) (h0 : (M mu).2.2.2.2.1 = []) (hw : rn_cw own index (M mu) n) (hc : Cond.code (M mu).1 (M mu).2.1 (M mu).2.2.1 (M mu).2.2.2.1 ∈ rn_ALL) (hl : Cond.methodLinkNest own index (M mu).1 host ∈ lw_tbl) (hw2 : Cond.static (M mu).1 ∈ rn_ALL) : rn_Si M own cc nL pc mu n none false := by
  intro p l e R s m args below meth c N0 E H locs cells slots d ls av rest Pc Qc XC hS hFF hM hX hbl hPc hrv _ hn hls hrest hf1 hf2 hR1 hR2
  exact rn_run (va_runSN (As := av) (rest := rest) hS (rn_met hM (hX rfl)) ⟨va_cnB n hS.2.2.2.2 (rn_GI (rn_gw h0 hc)) (rn_we h0) rfl rfl (hFF.bad _ hl rfl) (hS.2.2.2.2 _ hw.2.2) hw.1 ⟨by show d + 8 + 1 ≤ _; omega, by show 8 + ((M mu).2.2.1 + 11) + 200 * (d + 1) ≤ _; have := hw.2.1; omega⟩, hS.2.2.2.2 _ hw2, trivial⟩ ⟨hbl, hPc⟩ rfl hn hls rfl (by show 2 * 0 + _ ≤ 8; omega) hd ⟨hf1, hf2⟩)
theorem rn_siIN {ci : Nat} {host : String} (hd : decode cc pc = .ok (.invokespecial index, 3)) (h0 : (M mu).2.2.2.2.1 = []) (hret : (M mu).2.2.2.1 = none) (hnm : (M mu).1.name = "<init>") (hw : rn_cw own index (M mu) n) (hc : Cond.code (M mu).1 (M mu).2.1 (M mu).2.2.1 none ∈ rn_ALL) (hl : Cond.methodLinkNest own index (M mu).1 host ∈ lw_tbl) (hw2 : Cond.instanceMethod (M mu).1 ∈ rn_ALL) : rn_Si M own cc nL pc mu (n + 1) (some ci) false := by
  intro p l e R s m args below meth c N0 E H locs cells slots d ls av rest Pc Qc XC hS hFF hM hX hbl hPc hrv _ hn hls hrest hf1 hf2 hR1 hR2
  obtain ⟨r', b, av', hr', rfl, hcell⟩ := hrv ci rfl
  have hlen : av'.length = n := Nat.succ.inj hn
  rw [rn_rw]
  exact rn_run (va_runIN (As := av') (rest := rest) hS (rn_met hM (hX rfl)) ⟨va_cnB n hS.2.2.2.2 (rn_GI (rn_gw h0 (by rw [hret]; exact hc))) (by rw [rn_we h0, hret]) rfl rfl (hFF.bad _ hl rfl) (hS.2.2.2.2 _ hw.2.2) hw.1 ⟨by show d + 8 + 1 ≤ _; omega, by show 8 + ((M mu).2.2.1 + 11) + 200 * (d + 1) ≤ _; have := hw.2.1; omega⟩, hnm, hS.2.2.2.2 _ hw2⟩ ⟨hbl, hPc⟩ rfl hlen hls rfl (by show 2 * 0 + _ ≤ 8; omega) hd ⟨hf1, hf2⟩)
end
/-- with each end -/
def rn_allo (f : rn_O → rn_R) : List rn_O → rn_R
  | [] => some []
  | o :: l => match l with
    | [] => f o
    | _ :: _ => match f o with
      | none => none
      | some a => match rn_allo f l with
        | none => none
        | some b => some (a ++ b)
theorem rn_allo_mem {f : rn_O → rn_R} : ∀ {l : List rn_O} {outs : List rn_O}, rn_allo f l = some outs → ∀ o ∈ l, ∃ o', f o = some o' ∧ ∀ x ∈ o', x ∈ outs
  | [], _, _, S, hS => by cases hS
  | [S0], outs, h, S, hS => by
    have e : S = S0 := by simpa using hS
    subst e
    exact ⟨outs, h, fun o ho => ho⟩
  | S0 :: S1 :: l, outs, h, S, hS => by
    unfold rn_allo at h
    dsimp only at h
    cases h1 : f S0 with
    | none => rw [h1] at h; cases h
    | some a =>
      cases h2 : rn_allo f (S1 :: l) with
      | none => rw [h1, h2] at h; cases h
      | some b =>
        rw [h1, h2] at h
        cases h
        rcases List.mem_cons.mp hS with e | e
        · subst e
          exact ⟨a, h1, fun o ho => List.mem_append_left _ ho⟩
        · obtain ⟨o', h3, h4⟩ := rn_allo_mem h2 S e
          exact ⟨o', h3, fun o ho => List.mem_append_right _ (h4 o ho)⟩
def rn_rv (h : List rn_C) (rc : Option Nat) (as : List rn_V) : Bool := match rc with
  | none => true
  | some ci => match as with
    | a :: _ => match a with
      | .inr (.inr (.inl j)) => match h[j]? with
        | some (.inr o) => Nat.beq o.1 ci
        | _ => false
      | _ => false
    | _ => false
theorem rn_rv_ok {h : List rn_C} {ci : Nat} {as : List rn_V} (hr : rn_rv h (some ci) as = true) : ∃ j r fs, as = .inr (.inr (.inl j)) :: r ∧ h[j]? = some (.inr (ci, fs)) := by
  unfold rn_rv at hr
  dsimp only at hr
  rcases as with _ | ⟨a, r⟩
  · cases hr
  · rcases a with a | a | j | a
    · cases hr
    · cases hr
    · dsimp only at hr
      split at hr
      · rename_i o ho
        obtain ⟨oc, ofs⟩ := o
        have e : oc = ci := Nat.eq_of_beq_eq_true hr
        subst e
        exact ⟨j, r, ofs, rfl, ho⟩
      · cases hr
    · cases hr
/-- a call: method, arguments, the receiver's class, may it throw, its budget; what is thrown: not known of (none), goes on (some none), is caught (at a place) -/
def rn_ca (mu n : Nat) (rc : Option Nat) (thr : Bool) (bc bz : Nat) (hx : Nat → Option (Option Nat)) : rn_T := fun mc ms k call (vs, h, nx, pc, al, st, c, z) =>
  cond (Nat.ble n st.length && Nat.ble ((st.drop n).map rn_cat).sum 8 && Nat.ble (c + bc) mc && Nat.ble (z + bz) ms && rn_rv h rc (st.take n).reverse)
    (match call mu (vs, h, nx, (st.take n).reverse) with
    | none => none
    | some os => rn_allo (fun o => match o.2.2.2 with
      | .inl none => k (o.1, o.2.1, o.2.2.1, pc + 3, al, st.drop n, c + bc, z + bz)
      | .inl (some v) => k (o.1, o.2.1, o.2.2.1, pc + 3, al, v :: st.drop n, c + bc, z + bz)
      | .inr (.inl x) => cond thr (match hx x with
        | none => none
        | some none => some [(o.1, o.2.1, o.2.2.1, .inr (.inl x))]
        | some (some t) => k (o.1, o.2.1, o.2.2.1, t, al, [.inr (.inr (.inr (.inl 1)))], c + bc, z + bz)) none
      | .inr (.inr _) => none) os) none
/-- which row of the table catches x at pc -/
def rn_Ct (own : String) (hh : List (Nat × Nat × Nat × Nat)) (pc x t : Nat) : Prop := ∃ (pre : List ExceptionTableEntry) (row : ExceptionTableEntry) (suf : List ExceptionTableEntry), tableOf hh = pre ++ row :: suf ∧
  (∀ z ∈ pre, covers z pc = false ∨ (z.catchType ≠ 0 ∧ ∃ j : Nat, rn_xn x ≠ rn_xn j ∧ Cond.classLink own z.catchType (rn_xn j) ∈ rn_ALL)) ∧ covers row pc = true ∧ row.catchType ≠ 0 ∧ row.handlerPc = t ∧ ∃ name, Cond.classLink own row.catchType name ∈ rn_ALL ∧ rn_wok (.castable (rn_xn x) name) = true
end RNJ
