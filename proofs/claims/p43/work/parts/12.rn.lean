section RNK
theorem rn_ca_ok {M : Nat → rn_D} {own : String} {cc : ByteArray} {nL : Nat} {hh : rn_H} {pc mu n : Nat} {rc : Option Nat} {thr : Bool} {bc bz : Nat} {hx : Nat → Option (Option Nat)} (hsi : rn_Si M own cc nL pc mu n rc thr) (hbc : (M mu).2.2.2.2.2.1 = bc) (hbz : (M mu).2.2.2.2.2.2 = bz)
    (hno : ∀ x, hx x = some none → ∀ z ∈ tableOf hh.1, covers z pc = false) (hct : ∀ x t, hx x = some (some t) → rn_Ct own hh.1 pc x t) : rn_TS M own cc nL hh pc (rn_ca mu n rc thr bc bz hx) := by
  rintro ⟨p, l, e, R, s, m, args, below, meth, c, D, cA, N0, E, G0, Q⟩ d mc ms k call ⟨vs, h, nx, pc0, al, st, c0, z0⟩ outs hF hpc hr h1 h2 h3
  cases hpc
  unfold rn_ca at hr
  dsimp only at hr
  cases hc : (Nat.ble n st.length && Nat.ble ((st.drop n).map rn_cat).sum 8 && Nat.ble (c0 + bc) mc && Nat.ble (z0 + bz) ms && rn_rv h rc (st.take n).reverse) with
  | false => rw [hc] at hr; cases hr
  | true =>
    rw [hc, cond_true] at hr
    simp only [Bool.and_eq_true] at hc
    obtain ⟨⟨⟨⟨c1, c2⟩, c3⟩, c4⟩, c5⟩ := hc
    have c1 := Nat.le_of_ble_eq_true c1
    have c2 := Nat.le_of_ble_eq_true c2
    have c3 := Nat.le_of_ble_eq_true c3
    have c4 := Nat.le_of_ble_eq_true c4
    cases hcall : call mu (vs, h, nx, (st.take n).reverse) with
    | none => rw [hcall] at hr; cases hr
    | some os =>
      rw [hcall] at hr
      dsimp only at hr
      obtain ⟨d', hd', hM⟩ := h2 mu _ os hcall
      obtain ⟨hx0, hb, hml, hown, hts, hlk, hK, hN0, hFF, ⟨htb, hnm⟩, hR1, hR2, hR3, hR4, hst⟩ := hF
      intro G ws H locs ls stk hR hL hs
      obtain ⟨hq1, hq2, hq3, hq4, hq5, hq6, hq7⟩ := hR
      have hs : rn_gs E G st stk := hs
      have hq3 : G.2.length = nx := hq3
      have hq4 : rn_w E G cA h ws := hq4
      have hq2 : rn_okV E vs := hq2
      have hq1 : rn_ext G0 G := hq1
      have hq5 : va_P D rn_cl ws H := hq5
      have hq6 : va_D (rn_hi N0) ws := hq6
      have hq7 : va_S (rn_hi N0) s.heap H locs := hq7
      obtain ⟨gt, gd⟩ := rn_gs.cut n hs
      have hlsz : ls.size = nL := by obtain ⟨l0, hl0, -⟩ := hL; exact hl0.1
      have hstk : ((stk.take n).reverse).reverse ++ stk.drop n = stk := by rw [List.reverse_reverse, List.take_append_drop]
      have hlen : (stk.take n).reverse.length = n := by rw [List.length_reverse, List.length_take, rn_gs.len hs]; omega
      have hav := rn_gs.rev gt
      have hrest : ((stk.drop n).map fun v => v.category).sum ≤ 8 := by rw [rn_gs.cats gd]; exact c2
      have hHs : s.heap.size ≤ H.size := hq7.1
      have hrun := hsi p l e R s m args below meth c N0 E H locs c0 z0 d' ls (stk.take n).reverse (stk.drop n) _ _ _ ⟨hx0, hb, hml, hown, hts⟩ hFF (hM G)
        (fun hthr X st0 t0 hX => by
          obtain ⟨⟨o, ho, x, G', e1, -, -⟩, -⟩ := hX
          obtain ⟨o', h9, -⟩ := rn_allo_mem hr o ho
          rw [e1] at h9
          dsimp only at h9
          rw [hthr] at h9
          cases h9)
        rn_Pc.blind
        (fun U hU hW => ⟨ws, (stk.take n).reverse, rfl, hav, hq2, hq3, hq4, by rw [hU]; exact hq5, hq6, va_K.moved hW.alike hK, by rw [hU]; exact Nat.le_trans hN0 hHs, rn_F.ride hW (fun a h5 h6 => by rw [hU]; exact hq7.2.1 a h5 h6) hFF⟩)
        (fun ci hci => by
          subst hci
          obtain ⟨j, r, fs, e1, e2⟩ := rn_rv_ok c5
          rw [e1] at hav
          obtain ⟨u, r1, e3, ⟨q, hq, rfl⟩, g5⟩ := rn_gs.pop hav
          obtain ⟨fs', hws, -⟩ := rn_obj hq4 hq e2
          obtain ⟨rc, hrc, -⟩ := hq5 j _ hws
          exact ⟨rc, q, r1, hrc, e3, va_recv hK hq5 hrc hws⟩)
        (fun _ _ a _ => Or.inr rfl) hlen hlsz hrest (by rw [hbc]; exact Nat.le_trans c3 hR3) (by rw [hbz]; exact Nat.le_trans c4 hR4) (by omega) (by omega)
      rw [hstk, hbc, hbz] at hrun
      intro T hT X
      rcases hrun T hT X with ⟨v, st₀, t, T', L, h0, X', hL', e1, e2, ⟨⟨o, ho, r, u, G', e3, e4, e5, ws', f1, f2, f3, f4, f5, f6⟩, hva⟩, hst'⟩ | ⟨q, st₀, t, T', L, X9, ce, h0, X', hL', e1, e2, ⟨⟨o, ho, x, G', e3, e4, ws', f1, f2, f3, f4, f5, f6⟩, hva⟩, hce, hcv, hcl, hst'⟩
      · obtain ⟨k1, k2, k3⟩ := vx_keep h0 e1 hq7 (fun q _ h => h) (fun q h => h) hL' hva
        obtain ⟨o', h9, h10⟩ := rn_allo_mem hr o ho
        rw [e3] at h9
        cases e4
        have gd' := rn_gs.ext f1 gd
        have hrel : rn_Rel (p, l, e, R, s, m, args, below, meth, c, D, cA, N0, E, G0, Q) G' o.1 o.2.1 o.2.2.1 ws' T'.heap (locs ++ L) := ⟨hq1.tr f1, f2, f3, f4, by rw [e1]; exact f5, f6, k3⟩
        have hL2 : rn_L E G' ls nL al := hL.ext f1
        rcases r with _ | r <;> rcases v with _ | v
        · have key := h1 _ o' h9 h10 G' ws' T'.heap (locs ++ L) ls (stk.drop n) hrel hL2 gd'
          obtain ⟨t2, a1, b1⟩ := key T' rfl X'
          exact ⟨t2, hst' t2 a1, b1⟩
        · exact e5.elim
        · exact e5.elim
        · have key := h1 _ o' h9 h10 G' ws' T'.heap (locs ++ L) ls (v :: stk.drop n) hrel hL2 ⟨e5, gd'⟩
          obtain ⟨t2, a1, b1⟩ := key T' rfl X'
          exact ⟨t2, hst' t2 a1, b1⟩
      · obtain ⟨k1, k2, k3⟩ := vx_keep h0 e1 hq7 (fun q _ h => h) (fun q h => h) hL' hva
        obtain ⟨o', h9, h10⟩ := rn_allo_mem hr o ho
        rw [e3] at h9
        dsimp only at h9
        have hrel : rn_Rel (p, l, e, R, s, m, args, below, meth, c, D, cA, N0, E, G0, Q) G' o.1 o.2.1 o.2.2.1 ws' T'.heap (locs ++ L) := ⟨hq1.tr f1, f2, f3, f4, by rw [e1]; exact f5, f6, k3⟩
        have hL2 : rn_L E G' ls nL al := hL.ext f1
        cases thr with
        | false => cases h9
        | true =>
          rw [cond_true] at h9
          subst e4
          cases hh9 : hx x with
          | none => rw [hh9] at h9; cases h9
          | some y =>
            rw [hh9] at h9
            cases y with
            | none =>
              cases h9
              obtain ⟨Qc, XC, hQ, hX⟩ := h3 _ (h10 _ List.mem_cons_self)
              have hQ : Q = vx_MQ below Qc XC args s mc ms (rn_hi N0) := hQ
              subst hQ
              have hout := vx_out (p := p) (l := l) (e := e) (R := R) (m := m) (meth := meth) (c := c) (s := s) (args := args) (below := below) (H := T'.heap) (locs := locs ++ L) (cells := c0 + bc) (slots := z0 + bz) (ls := ls) (rest := stk.drop n) (pc := pc0) (Qc := Qc) (XC := XC) (free := rn_hi N0) (mc := mc) (ms := ms) (q := q) (by rw [htb]; exact hno x hh9) hlk (by rw [e1]; exact hce) hcv hcl (fun t9 g1 g2 => hX G' ws' T'.heap (locs ++ L) hrel t9 g2 (by rw [g1]; exact Nat.le_refl _) (fun q _ => by rw [g1])) k3.2.2 c3 c4
              obtain ⟨t2, a1, b1⟩ := hout T' rfl X'
              exact ⟨t2, hst'.trans a1, b1⟩
            | some tp =>
              obtain ⟨pre, row, suf, g1, g2, g3, g4, g5, name, g6, g7⟩ := hct x tp hh9
              have key := h1 _ o' h9 h10 G' ws' T'.heap (locs ++ L) ls [.ref q] hrel hL2 ⟨Or.inr (Or.inl ⟨rfl, q, rfl⟩), trivial⟩
              have hcatch := vx_catch (p := p) (l := l) (e := e) (R := R) (s := s) (m := m) (args := args) (below := below) (meth := meth) (c := c) (H := T'.heap) (locs := locs ++ L) (cells := c0 + bc) (slots := z0 + bz) (Q := Q) (pc := pc0) (ls := ls) (rest := stk.drop n) (q := q) hown pre row suf (htb.trans g1)
                (fun z hz => (g2 z hz).imp id fun ⟨z1, j, z2, z3⟩ => ⟨z1, _, hts _ z3, hFF.2.2.2.2.2.2.2.2.2.2.1 x j z2⟩) g3 g4 (hts _ g6) (rn_wd hts hFF g7) (by rw [e1]; exact hce) hcv hcl (by rw [g5]; exact key)
              obtain ⟨t2, a1, b1⟩ := hcatch T' rfl X'
              exact ⟨t2, hst'.trans a1, b1⟩
end RNK
