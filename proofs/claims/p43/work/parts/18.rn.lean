section RNU
variable {own : String} {cc : ByteArray} {nL : Nat} {hh : rn_H} {pc : Nat}
/-- which of a row is the first that isn't 0 -/
def rn_fpv : List rn_V → List (List Nat) → List (List (List Nat))
  | [], vs => [vs]
  | a :: l, vs => match a with
    | .inr (.inl w) => (rn_sp vs w.1 (rn_at w.2 fun v => !(decide (v = 0)))).flatMap fun q => cond q.2 [q.1] (rn_fpv l q.1)
    | _ => rn_fpv l vs
theorem rn_fpv_ok {E : rn_E} : ∀ (l : List rn_V) (vs : List (List Nat)), rn_okV E vs → ∃ vs' ∈ rn_fpv l vs, rn_okV E vs'
  | [], vs, h => ⟨vs, List.mem_cons_self, h⟩
  | a :: l, vs, h => by
    unfold rn_fpv
    split
    · rename_i w
      obtain ⟨v1, h1, h2⟩ := rn_sp_ok h w.1 (rn_at w.2 fun v => !(decide (v = 0)))
      cases hb : rn_at w.2 (fun v => !(decide (v = 0))) (E.1 w.1) with
      | true =>
        rw [hb] at h1
        exact ⟨v1, List.mem_flatMap.mpr ⟨_, h1, List.mem_cons_self⟩, h2⟩
      | false =>
        rw [hb] at h1
        obtain ⟨v2, h3, h4⟩ := rn_fpv_ok l v1 h2
        exact ⟨v2, List.mem_flatMap.mpr ⟨_, h1, h3⟩, h4⟩
    · exact rn_fpv_ok l vs h
def rn_fps (i : Nat) (f : Nat → Nat → rn_S → Option (List rn_S)) : Nat → Nat → rn_S → Option (List rn_S) := fun mc ms (vs, h, nx, pc, al, st, c, z) => match rn_find i al with
  | some (.inr (.inr (.inl j))) => match h[j]? with
    | some (.inl x) => rn_cat3 (f mc ms) ((rn_fpv x.2 vs).map fun w => (w, h, nx, pc, al, st, c, z))
    | _ => none
  | _ => none
theorem rn_fps_ok {i : Nat} {f : Nat → Nat → rn_S → Option (List rn_S)} (h0 : rn_SS own cc nL hh pc f) : rn_SS own cc nL hh pc (rn_fps i f) := by
  refine rn_cov (fun mc ms S l hf => ?_) h0
  obtain ⟨vs, h, nx, pc0, al, st, c, z⟩ := S
  unfold rn_fps at hf
  dsimp only at hf
  split at hf
  · split at hf
    · rename_i x hx
      refine ⟨_, hf, fun S' hS => ?_, fun B hk => ?_⟩
      · obtain ⟨v, -, rfl⟩ := List.mem_map.mp hS
        rfl
      · obtain ⟨p, l, e, R, s, m, args, below, meth, c1, D, cA, N0, E, G0, Q⟩ := B
        intro G ws H locs ls stk hR hL hs
        obtain ⟨v1, h1, h2⟩ := rn_fpv_ok x.2 vs hR.2.1
        exact hk _ (List.mem_map.mpr ⟨v1, h1, rfl⟩) G ws H locs ls stk ⟨hR.1, h2, hR.2.2⟩ hL hs
    · cases hf
  · cases hf
/-- 'a == 0 ? y : x', y and x locals, in one piece -/
def rn_sel (i j t : Nat) : Nat → Nat → rn_S → Option (List rn_S) := fun _ _ (vs, h, nx, _, al, st, c, z) => match st with
  | a :: r => match rn_find i al with
    | some x => match rn_find j al with
      | some y => cond (rn_isI a && rn_isI x && rn_isI y) (match rn_hull vs a with
        | none => none
        | some g => cond (decide (0 < g.1)) (some [(vs, h, nx, t, al, x :: r, c, z)]) (cond (decide (0 ≤ g.1) && decide (g.2 ≤ 0)) (some [(vs, h, nx, t, al, y :: r, c, z)]) (match rn_hull vs x with
          | some p => match rn_hull vs y with
            | some q => some [(vs, h, nx, t, al, .inl (rn_imin p.1 q.1, rn_imax p.2 q.2) :: r, c, z)]
            | none => none
          | none => none))) none
      | none => none
    | none => none
  | _ => none
theorem rn_imin_le (x y : Int) : rn_imin x y ≤ x ∧ rn_imin x y ≤ y := by
  unfold rn_imin
  cases h : decide (y < x) with
  | true => have := of_decide_eq_true h; exact ⟨by show y ≤ x; omega, Int.le_refl _⟩
  | false => have := of_decide_eq_false h; exact ⟨Int.le_refl _, by show x ≤ y; omega⟩
theorem rn_imax_le (x y : Int) : x ≤ rn_imax x y ∧ y ≤ rn_imax x y := by
  unfold rn_imax
  cases h : decide (x < y) with
  | true => have := of_decide_eq_true h; exact ⟨by show x ≤ y; omega, Int.le_refl _⟩
  | false => have := of_decide_eq_false h; exact ⟨Int.le_refl _, by show y ≤ x; omega⟩
theorem rn_sel_ok {i j t t1 : Nat} {o1 o2 : Int} (d0 : decode cc pc = .ok (.ifCond .eq o1, 3)) (ht0 : (pc : Int) + o1 = (t1 : Int)) (d1 : decode cc (pc + 3) = .ok (.iload i, 2)) (d2 : decode cc (pc + 3 + 2) = .ok (.goto o2, 3)) (ht2 : ((pc + 3 + 2 : Nat) : Int) + o2 = (t : Int)) (d3 : decode cc t1 = .ok (.iload j, 2)) (ht3 : t1 + 2 = t) : rn_SS own cc nL hh pc (rn_sel i j t) := by
  rintro ⟨p, l, e, R, s, m, args, below, meth, c, D, cA, N0, E, G0, Q⟩ d mc ms ⟨vs, h, nx, pc0, al, st, c0, z0⟩ lS hF hpc hf hk
  cases hpc
  subst ht3
  unfold rn_sel at hf
  dsimp only at hf
  rcases st with _ | ⟨a, r⟩
  · cases hf
  · dsimp only at hf
    cases hi : rn_find i al with
    | none => rw [hi] at hf; cases hf
    | some x =>
      cases hj : rn_find j al with
      | none => rw [hi, hj] at hf; cases hf
      | some y =>
        rw [hi, hj] at hf
        dsimp only at hf
        cases hc : (rn_isI a && rn_isI x && rn_isI y) with
        | false => rw [hc] at hf; cases hf
        | true =>
          rw [hc, cond_true] at hf
          simp only [Bool.and_eq_true] at hc
          obtain ⟨⟨k1, k2⟩, k3⟩ := hc
          obtain ⟨hx, hb, -⟩ := hF
          intro G ws H locs ls stk hR hL hs
          obtain ⟨u, r1, rfl, g4, g5⟩ := rn_gs.pop hs
          obtain ⟨v1, l1, q1⟩ := hL.at hi
          obtain ⟨v2, l2, q2⟩ := hL.at hj
          obtain ⟨x', rfl⟩ := rn_g.int q1 k2
          obtain ⟨y', rfl⟩ := rn_g.int q2 k3
          cases hg : rn_hull vs a with
          | none => rw [hg] at hf; cases hf
          | some g =>
            rw [hg] at hf
            dsimp only at hf
            obtain ⟨w, rfl, b1, b2⟩ := rn_hull_ok hR.2.1 hg g4
            have h0 : (0 : Int32).toInt = 0 := rfl
            have fin : ∀ (v : rn_V), (∀ S' ∈ [(vs, h, nx, t1 + 2, al, v :: r, c0, z0)], rn_W nL (p, l, e, R, s, m, args, below, meth, c, D, cA, N0, E, G0, Q) S') → (¬ w = 0 → rn_g E G v (.int x')) → (w = 0 → rn_g E G v (.int y')) → W p l e R s m args below meth c H locs c0 z0 Q (F0 m pc0 ls (.int w :: r1)) := by
              intro v hkv f1 f2
              have key := hkv _ List.mem_cons_self
              refine lv_if_eq hx hb d0 ht0 (fun z => ?_) (fun z => ?_)
              · refine lv_iload hx hb d3 l2 ?_
                exact key G ws H locs ls (.int y' :: r1) hR hL ⟨f2 z, g5⟩
              · refine lv_iload hx hb d1 l1 ?_
                refine lv_goto hx hb d2 ht2 ?_
                exact key G ws H locs ls (.int x' :: r1) hR hL ⟨f1 z, g5⟩
            cases e1 : decide (0 < g.1) with
            | true =>
              rw [e1] at hf
              cases hf
              have e1 := of_decide_eq_true e1
              exact fin x hk (fun _ => q1) (fun z => by rw [z, h0] at b1; omega)
            | false =>
              rw [e1, cond_false] at hf
              cases e2 : (decide (0 ≤ g.1) && decide (g.2 ≤ 0)) with
              | true =>
                rw [e2] at hf
                cases hf
                simp only [Bool.and_eq_true, decide_eq_true_eq] at e2
                exact fin y hk (fun z => absurd ((ri_eq w 0).mpr (by rw [h0]; omega)) z) (fun _ => q2)
              | false =>
                rw [e2, cond_false] at hf
                cases hp : rn_hull vs x with
                | none => rw [hp] at hf; cases hf
                | some pp =>
                  cases hq : rn_hull vs y with
                  | none => rw [hp, hq] at hf; cases hf
                  | some qq =>
                    rw [hp, hq] at hf
                    cases hf
                    obtain ⟨x9, e9, a1, a2⟩ := rn_hull_ok hR.2.1 hp q1
                    cases e9
                    obtain ⟨y9, e9, a3, a4⟩ := rn_hull_ok hR.2.1 hq q2
                    cases e9
                    have m1 := rn_imin_le pp.1 qq.1
                    have m2 := rn_imax_le pp.2 qq.2
                    exact fin _ hk (fun _ => ⟨x', rfl, by show rn_imin pp.1 qq.1 ≤ _; omega, by show _ ≤ rn_imax pp.2 qq.2; omega⟩) (fun _ => ⟨y', rfl, by show rn_imin pp.1 qq.1 ≤ _; omega, by show _ ≤ rn_imax pp.2 qq.2; omega⟩)
/-- 'a == 0', 0 or 1 -/
def rn_bit (t : Nat) : Nat → Nat → rn_S → Option (List rn_S) := fun _ _ (vs, h, nx, _, al, st, c, z) => match st with
  | a :: r => cond (rn_isI a) (some [(vs, h, nx, t, al, .inl (0, 1) :: r, c, z)]) none
  | _ => none
theorem rn_bit_ok {t t1 : Nat} {o1 o2 : Int} (d0 : decode cc pc = .ok (.ifCond .ne o1, 3)) (ht0 : (pc : Int) + o1 = (t1 : Int)) (d1 : decode cc (pc + 3) = .ok (.iconst 1, 1)) (d2 : decode cc (pc + 3 + 1) = .ok (.goto o2, 3)) (ht2 : ((pc + 3 + 1 : Nat) : Int) + o2 = (t : Int)) (d3 : decode cc t1 = .ok (.iconst 0, 1)) (ht3 : t1 + 1 = t) : rn_SS own cc nL hh pc (rn_bit t) := by
  rintro ⟨p, l, e, R, s, m, args, below, meth, c, D, cA, N0, E, G0, Q⟩ d mc ms ⟨vs, h, nx, pc0, al, st, c0, z0⟩ lS hF hpc hf hk
  cases hpc
  subst ht3
  unfold rn_bit at hf
  dsimp only at hf
  rcases st with _ | ⟨a, r⟩
  · cases hf
  · dsimp only at hf
    cases hc : rn_isI a with
    | false => rw [hc] at hf; cases hf
    | true =>
      rw [hc] at hf
      cases hf
      obtain ⟨hx, hb, -⟩ := hF
      intro G ws H locs ls stk hR hL hs
      obtain ⟨u, r1, rfl, g4, g5⟩ := rn_gs.pop hs
      obtain ⟨w, rfl⟩ := rn_g.int g4 hc
      have key := hk _ List.mem_cons_self
      have g0 : rn_g E G (.inl (0, 1)) (.int 0) := ⟨0, rfl, by decide, by decide⟩
      have g1 : rn_g E G (.inl (0, 1)) (.int 1) := ⟨1, rfl, by decide, by decide⟩
      refine lv_if_ne hx hb d0 ht0 (fun z => ?_) (fun z => ?_)
      · refine lv_iconst (v := 0) hx hb d3 (by decide) ?_
        exact key G ws H locs ls (.int 0 :: r1) hR hL ⟨g0, g5⟩
      · refine lv_iconst (v := 1) hx hb d1 (by decide) ?_
        refine lv_goto hx hb d2 ht2 ?_
        exact key G ws H locs ls (.int 1 :: r1) hR hL ⟨g1, g5⟩
end RNU
