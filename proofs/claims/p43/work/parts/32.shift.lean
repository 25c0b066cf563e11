section RNZ
/-! a run from a state with more made already -/
def rn_up (a b : Nat) : rn_S → rn_S := fun (vs, h, nx, pc, al, st, c, z) => (vs, h, nx, pc, al, st, c + a, z + b)
def rn_dn (a b : Nat) : rn_S → rn_S := fun (vs, h, nx, pc, al, st, c, z) => (vs, h, nx, pc, al, st, c - a, z - b)
theorem rn_dn_up (a b : Nat) (S : rn_S) : rn_dn a b (rn_up a b S) = S := by
  obtain ⟨vs, h, nx, pc, al, st, c, z⟩ := S
  show (vs, h, nx, pc, al, st, c + a - a, z + b - b) = _
  rw [Nat.add_sub_cancel, Nat.add_sub_cancel]
def rn_uo (a b : Nat) : rn_O → rn_O := fun o => (o.1, o.2.1, o.2.2.1, match o.2.2.2 with
  | .inl r => .inl r
  | .inr (.inl x) => .inr (.inl x)
  | .inr (.inr (pc, al, st, c, z)) => .inr (.inr (pc, al, st, c + a, z + b)))
def rn_ku (a b : Nat) (k : rn_S → rn_R) : rn_S → rn_R := fun S => (k (rn_dn a b S)).map (List.map (rn_uo a b))
theorem rn_ku_up (a b : Nat) (k : rn_S → rn_R) (S : rn_S) : rn_ku a b k (rn_up a b S) = (k S).map (List.map (rn_uo a b)) := by
  unfold rn_ku
  rw [rn_dn_up]
def rn_sh (tr : rn_T) : Prop := ∀ (mc ms MC MS a b : Nat) (k : rn_S → rn_R) (call : Nat → rn_A → rn_R) (S : rn_S) (outs : List rn_O), mc + a ≤ MC → ms + b ≤ MS → tr mc ms k call S = some outs → tr MC MS (rn_ku a b k) call (rn_up a b S) = some (outs.map (rn_uo a b))
def rn_fs (f : Nat → Nat → rn_S → Option (List rn_S)) : Prop := ∀ (mc ms MC MS a b : Nat) (S : rn_S) (l : List rn_S), mc + a ≤ MC → ms + b ≤ MS → f mc ms S = some l → f MC MS (rn_up a b S) = some (l.map (rn_up a b))
theorem rn_all_ku (a b : Nat) (k : rn_S → rn_R) : ∀ l : List rn_S, rn_all (rn_ku a b k) (l.map (rn_up a b)) = (rn_all k l).map (List.map (rn_uo a b))
  | [] => rfl
  | [S] => rn_ku_up a b k S
  | S :: S1 :: l => by
    have ih := rn_all_ku a b k (S1 :: l)
    show (match rn_ku a b k (rn_up a b S) with
      | none => none
      | some x => match rn_all (rn_ku a b k) ((S1 :: l).map (rn_up a b)) with
        | none => none
        | some y => some (x ++ y)) = Option.map (List.map (rn_uo a b)) (match k S with
      | none => none
      | some x => match rn_all k (S1 :: l) with
        | none => none
        | some y => some (x ++ y))
    rw [ih, rn_ku_up]
    cases k S with
    | none => rfl
    | some x =>
      cases rn_all k (S1 :: l) with
      | none => rfl
      | some y =>
        show some (x.map (rn_uo a b) ++ y.map (rn_uo a b)) = some ((x ++ y).map (rn_uo a b))
        rw [List.map_append]
theorem rn_sh_st {f : Nat → Nat → rn_S → Option (List rn_S)} (h : rn_fs f) : rn_sh (rn_st f) := by
  intro mc ms MC MS a b k call S outs h1 h2 hr
  unfold rn_st at hr ⊢
  cases hf : f mc ms S with
  | none => rw [hf] at hr; cases hr
  | some l =>
    rw [hf] at hr
    rw [h mc ms MC MS a b S l h1 h2 hf]
    show rn_all (rn_ku a b k) (l.map (rn_up a b)) = _
    rw [rn_all_ku]
    have hr : rn_all k l = some outs := hr
    rw [hr]
    rfl
theorem rn_sh_cu : rn_sh rn_cu := by
  rintro mc ms MC MS a b k call ⟨vs, h, nx, pc, al, st, c, z⟩ outs h1 h2 hr
  cases hr
  rfl
theorem rn_sh_cg {t : Nat} : rn_sh (rn_cg t) := by
  rintro mc ms MC MS a b k call ⟨vs, h, nx, pc, al, st, c, z⟩ outs h1 h2 hr
  cases hr
  rfl
theorem rn_ble {x mc : Nat} (h : Nat.ble x mc = true) {y MC : Nat} (e : x ≤ mc → y ≤ MC) : Nat.ble y MC = true := Nat.ble_eq_true_of_le (e (Nat.le_of_ble_eq_true h))
theorem rn_sh_re {tk : Nat} : rn_sh (rn_re tk) := by
  rintro mc ms MC MS a b k call ⟨vs, h, nx, pc, al, st, c, z⟩ outs h1 h2 hr
  unfold rn_re at hr ⊢
  dsimp only [rn_up] at hr ⊢
  split at hr
  · split at hr
    · rename_i v _
      cases hc : (rn_fk tk vs v && Nat.ble c mc && Nat.ble z ms) with
      | false => rw [hc] at hr; cases hr
      | true =>
        rw [hc] at hr
        cases hr
        simp only [Bool.and_eq_true] at hc
        rw [hc.1.1, rn_ble hc.1.2 (fun _ => by omega) (y := c + a) (MC := MC), rn_ble hc.2 (fun _ => by omega) (y := z + b) (MC := MS)]
        rfl
    · cases hr
  · cases hr
theorem rn_allo_map {f g : rn_O → rn_R} {m : List rn_O → List rn_O} (hm : ∀ x y, m (x ++ y) = m x ++ m y) (hm0 : m [] = []) (hfg : ∀ o r, f o = some r → g o = some (m r)) : ∀ (l : List rn_O) (r : List rn_O), rn_allo f l = some r → rn_allo g l = some (m r)
  | [], r, h => by
    cases h
    rw [hm0]
    rfl
  | [o], r, h => hfg o r h
  | o :: o1 :: l, r, h => by
    have h : (match f o with
      | none => none
      | some a => match rn_allo f (o1 :: l) with
        | none => none
        | some b => some (a ++ b)) = some r := h
    show (match g o with
      | none => none
      | some a => match rn_allo g (o1 :: l) with
        | none => none
        | some b => some (a ++ b)) = some (m r)
    cases h1 : f o with
    | none => rw [h1] at h; cases h
    | some x =>
      cases h2 : rn_allo f (o1 :: l) with
      | none => rw [h1, h2] at h; cases h
      | some y =>
        rw [h1, h2] at h
        cases h
        rw [hfg o x h1, rn_allo_map hm hm0 hfg (o1 :: l) y h2, hm]
theorem rn_sh_ca {mu n : Nat} {rc : Option Nat} {thr : Bool} {bc bz : Nat} {hx : Nat → Option (Option Nat)} : rn_sh (rn_ca mu n rc thr bc bz hx) := by
  rintro mc ms MC MS a b k call ⟨vs, h, nx, pc, al, st, c, z⟩ outs h1 h2 hr
  unfold rn_ca at hr ⊢
  dsimp only [rn_up] at hr ⊢
  cases hc : (Nat.ble n st.length && Nat.ble ((st.drop n).map rn_cat).sum 8 && Nat.ble (c + bc) mc && Nat.ble (z + bz) ms && rn_rv h rc (st.take n).reverse) with
  | false => rw [hc] at hr; cases hr
  | true =>
    rw [hc, cond_true] at hr
    simp only [Bool.and_eq_true] at hc
    rw [hc.1.1.1.1, hc.1.1.1.2, rn_ble hc.1.1.2 (fun _ => by omega) (y := c + a + bc) (MC := MC), rn_ble hc.1.2 (fun _ => by omega) (y := z + b + bz) (MC := MS), hc.2]
    cases hcall : call mu (vs, h, nx, (st.take n).reverse) with
    | none => rw [hcall] at hr; cases hr
    | some os =>
      rw [hcall] at hr
      dsimp only [Bool.and_self, cond_true] at hr ⊢
      refine rn_allo_map (m := List.map (rn_uo a b)) (fun x y => List.map_append) rfl (fun o r ho => ?_) os outs hr
      have key : ∀ (vs : List (List Nat)) (h : List rn_C) (nx pc : Nat) (al : List (Nat × rn_V)) (st : List rn_V), k (vs, h, nx, pc, al, st, c + bc, z + bz) = some r → rn_ku a b k (vs, h, nx, pc, al, st, c + a + bc, z + b + bz) = some (r.map (rn_uo a b)) := by
        intro vs h nx pc al st hk
        have e := rn_ku_up a b k (vs, h, nx, pc, al, st, c + bc, z + bz)
        rw [hk] at e
        have e9 : rn_up a b (vs, h, nx, pc, al, st, c + bc, z + bz) = (vs, h, nx, pc, al, st, c + a + bc, z + b + bz) := by
          show (vs, h, nx, pc, al, st, c + bc + a, z + bz + b) = _
          rw [Nat.add_right_comm c bc a, Nat.add_right_comm z bz b]
        rw [← e9]
        exact e
      split at ho
      · exact key _ _ _ _ _ _ ho
      · exact key _ _ _ _ _ _ ho
      · cases thr with
        | false => cases ho
        | true =>
          dsimp only [cond_true] at ho ⊢
          split at ho
          · cases ho
          · cases ho
            rfl
          · exact key _ _ _ _ _ _ ho
      · cases ho
/-- what leaves alone how much was made -/
def rn_pm (f : Nat → Nat → rn_S → Option (List rn_S)) : Prop := ∀ (mc ms MC MS : Nat) (vs : List (List Nat)) (h : List rn_C) (nx pc : Nat) (al : List (Nat × rn_V)) (st : List rn_V) (c z c' z' : Nat), f MC MS (vs, h, nx, pc, al, st, c', z') = (f mc ms (vs, h, nx, pc, al, st, c, z)).map (List.map fun S => (S.1, S.2.1, S.2.2.1, S.2.2.2.1, S.2.2.2.2.1, S.2.2.2.2.2.1, c', z'))
theorem rn_pm.fs {f : Nat → Nat → rn_S → Option (List rn_S)} (hp : rn_pm f) : rn_fs f := by
  rintro mc ms MC MS a b ⟨vs, h, nx, pc, al, st, c, z⟩ l - - hf
  show f MC MS (vs, h, nx, pc, al, st, c + a, z + b) = _
  rw [hp mc ms MC MS vs h nx pc al st c z (c + a) (z + b), hf]
  have h1 := hp mc ms mc ms vs h nx pc al st c z c z
  rw [hf] at h1
  have h1 := Option.some.inj h1
  show some _ = some _
  refine congrArg some ?_
  conv => rhs; rw [h1]
  rw [List.map_map]
  rfl
theorem rn_pm_pu {v : rn_V} {n : Nat} : rn_pm (rn_pu v n) := fun _ _ _ _ _ _ _ _ _ _ _ _ _ _ => rfl
theorem rn_pm_go {t : Nat} : rn_pm (rn_go t) := fun _ _ _ _ _ _ _ _ _ _ _ _ _ _ => rfl
theorem rn_pm_ld {ok : rn_V → Bool} {i n : Nat} : rn_pm (rn_ld ok i n) := by
  intro mc ms MC MS vs h nx pc al st c z c' z'
  unfold rn_ld
  dsimp only
  cases rn_find i al with
  | none => rfl
  | some v =>
    dsimp only
    cases ok v <;> rfl
theorem rn_pm_so {ok : rn_V → Bool} {i n : Nat} : rn_pm (rn_so ok i n) := by
  intro mc ms MC MS vs h nx pc al st c z c' z'
  unfold rn_so
  dsimp only
  cases st with
  | nil => rfl
  | cons v r =>
    dsimp only
    cases ok v <;> rfl
theorem rn_pm_du : rn_pm rn_du := by
  intro mc ms MC MS vs h nx pc al st c z c' z'
  unfold rn_du
  dsimp only
  rcases st with _ | ⟨x, r⟩
  · rfl
  · dsimp only
    cases Nat.beq (rn_cat x) 1 <;> rfl
theorem rn_pm_b2 {f : List (List Nat) → rn_V → rn_V → Option (List rn_V)} {n : Nat} : rn_pm (rn_b2 f n) := by
  intro mc ms MC MS vs h nx pc al st c z c' z'
  unfold rn_b2
  dsimp only
  rcases st with _ | ⟨x, _ | ⟨y, r⟩⟩
  · rfl
  · rfl
  · dsimp only
    cases (rn_isI y && rn_isI x) with
    | false => rfl
    | true =>
      dsimp only [cond_true]
      cases f vs y x with
      | none => rfl
      | some L =>
        show some _ = some _
        refine congrArg some ?_
        rw [List.map_map]
        rfl
theorem rn_pm_inc {i : Nat} {n : Int} : rn_pm (rn_inc i n) := by
  intro mc ms MC MS vs h nx pc al st c z c' z'
  unfold rn_inc
  dsimp only
  cases rn_find i al with
  | none => rfl
  | some v =>
    dsimp only
    cases rn_isI v with
    | false => rfl
    | true =>
      dsimp only [cond_true]
      cases rn_oadd vs v (.inl (n, n)) with
      | none => rfl
      | some L =>
        show some _ = some _
        refine congrArg some ?_
        rw [List.map_map]
        rfl
theorem rn_pm_ic {q : ClassFile.Cond} {t : Nat} : rn_pm (rn_ic q t) := by
  intro mc ms MC MS vs h nx pc al st c z c' z'
  unfold rn_ic
  dsimp only
  rcases st with _ | ⟨x, _ | ⟨y, r⟩⟩
  · rfl
  · rfl
  · dsimp only
    cases (rn_isI y && rn_isI x) with
    | false => rfl
    | true =>
      dsimp only [cond_true]
      cases rn_br q vs y x with
      | none => rfl
      | some L =>
        show some _ = some _
        refine congrArg some ?_
        rw [List.map_map]
        rfl
theorem rn_pm_if {q : ClassFile.Cond} {t : Nat} : rn_pm (rn_if q t) := by
  intro mc ms MC MS vs h nx pc al st c z c' z'
  unfold rn_if
  dsimp only
  rcases st with _ | ⟨x, r⟩
  · rfl
  · dsimp only
    cases rn_isI x with
    | false => rfl
    | true =>
      dsimp only [cond_true]
      cases rn_br q vs x (.inl (0, 0)) with
      | none => rfl
      | some L =>
        show some _ = some _
        refine congrArg some ?_
        rw [List.map_map]
        rfl
theorem rn_pm_sw {lo : Int} {tg : List Nat} {df : Nat} : rn_pm (rn_sw lo tg df) := by
  intro mc ms MC MS vs h nx pc al st c z c' z'
  unfold rn_sw
  dsimp only
  rcases st with _ | ⟨x, r⟩
  · rfl
  · rcases x with w | w
    · dsimp only
      cases decide (w.1 = w.2) <;> rfl
    · rfl
theorem rn_pm_bit {t : Nat} : rn_pm (rn_bit t) := by
  intro mc ms MC MS vs h nx pc al st c z c' z'
  unfold rn_bit
  dsimp only
  rcases st with _ | ⟨x, r⟩
  · rfl
  · dsimp only
    cases rn_isI x <;> rfl
theorem rn_pm_ra {kd : Nat} : rn_pm (rn_ra kd) := by
  intro mc ms MC MS vs h nx pc al st c z c' z'
  unfold rn_ra
  dsimp only
  rcases st with _ | ⟨x, _ | ⟨y, r⟩⟩
  · rfl
  · rfl
  · dsimp only
    cases rn_isI x with
    | false => rfl
    | true =>
      dsimp only [cond_true]
      rcases y with y | y | j | y
      · rfl
      · rfl
      · dsimp only
        cases h[j]? with
        | none => rfl
        | some o =>
          rcases o with o | o
          · dsimp only
            cases Nat.beq o.1 kd with
            | false => rfl
            | true =>
              dsimp only [cond_true]
              cases rn_ix vs x with
              | none => rfl
              | some i =>
                dsimp only
                cases o.2[i]? <;> rfl
          · rfl
      · rfl
theorem rn_pm_rs {kd tk : Nat} : rn_pm (rn_rs kd tk) := by
  intro mc ms MC MS vs h nx pc al st c z c' z'
  unfold rn_rs
  dsimp only
  rcases st with _ | ⟨v, _ | ⟨x, _ | ⟨y, r⟩⟩⟩
  · rfl
  · rfl
  · rfl
  · dsimp only
    cases (rn_isI x && rn_fk tk vs v) with
    | false => rfl
    | true =>
      dsimp only [cond_true]
      rcases y with y | y | j | y
      · rfl
      · rfl
      · dsimp only
        cases h[j]? with
        | none => rfl
        | some o =>
          rcases o with o | o
          · dsimp only
            cases Nat.beq o.1 kd with
            | false => rfl
            | true =>
              dsimp only [cond_true]
              cases rn_ix vs x with
              | none => rfl
              | some i =>
                dsimp only
                cases Nat.blt i o.2.length <;> rfl
          · rfl
      · rfl
theorem rn_pm_sel {i j t : Nat} : rn_pm (rn_sel i j t) := by
  intro mc ms MC MS vs h nx pc al st c z c' z'
  unfold rn_sel
  dsimp only
  rcases st with _ | ⟨a, r⟩
  · rfl
  · dsimp only
    cases rn_find i al with
    | none => rfl
    | some x =>
      dsimp only
      cases rn_find j al with
      | none => rfl
      | some y =>
        dsimp only
        cases (rn_isI a && rn_isI x && rn_isI y) with
        | false => rfl
        | true =>
          dsimp only [cond_true]
          cases rn_hull vs a with
          | none => rfl
          | some g =>
            dsimp only
            cases decide (0 < g.1) with
            | true => rfl
            | false =>
              dsimp only [cond_false]
              cases (decide (0 ≤ g.1) && decide (g.2 ≤ 0)) with
              | true => rfl
              | false =>
                dsimp only [cond_false]
                cases rn_hull vs x with
                | none => rfl
                | some p =>
                  dsimp only
                  cases rn_hull vs y <;> rfl
abbrev rn_T6 : Type := List (List Nat) × List rn_C × Nat × Nat × List (Nat × rn_V) × List rn_V
def rn_mk (q : rn_T6) (c z : Nat) : rn_S := (q.1, q.2.1, q.2.2.1, q.2.2.2.1, q.2.2.2.2.1, q.2.2.2.2.2, c, z)
theorem rn_cat3_pm {α : Type} {f : Nat → Nat → rn_S → Option (List rn_S)} (hp : rn_pm f) (g : α → rn_T6) (mc ms MC MS c z c' z' : Nat) : ∀ L : List α, rn_cat3 (f MC MS) (L.map fun v => rn_mk (g v) c' z') = (rn_cat3 (f mc ms) (L.map fun v => rn_mk (g v) c z)).map (List.map fun S => (S.1, S.2.1, S.2.2.1, S.2.2.2.1, S.2.2.2.2.1, S.2.2.2.2.2.1, c', z'))
  | [] => rfl
  | v :: L => by
    have ih := rn_cat3_pm hp g mc ms MC MS c z c' z' L
    have h1 := hp mc ms MC MS (g v).1 (g v).2.1 (g v).2.2.1 (g v).2.2.2.1 (g v).2.2.2.2.1 (g v).2.2.2.2.2 c z c' z'
    have h1 : f MC MS (rn_mk (g v) c' z') = (f mc ms (rn_mk (g v) c z)).map (List.map fun S => (S.1, S.2.1, S.2.2.1, S.2.2.2.1, S.2.2.2.2.1, S.2.2.2.2.2.1, c', z')) := h1
    show (match f MC MS (rn_mk (g v) c' z') with
      | none => none
      | some a => match rn_cat3 (f MC MS) (L.map fun v => rn_mk (g v) c' z') with
        | none => none
        | some b => some (a ++ b)) = Option.map _ (match f mc ms (rn_mk (g v) c z) with
      | none => none
      | some a => match rn_cat3 (f mc ms) (L.map fun v => rn_mk (g v) c z) with
        | none => none
        | some b => some (a ++ b))
    rw [h1, ih]
    cases f mc ms (rn_mk (g v) c z) with
    | none => rfl
    | some a =>
      cases rn_cat3 (f mc ms) (L.map fun v => rn_mk (g v) c z) with
      | none => rfl
      | some b =>
        show some (_ ++ _) = some (List.map _ (a ++ b))
        rw [List.map_append]
theorem rn_pm_lds {i : Nat} {f : Nat → Nat → rn_S → Option (List rn_S)} (hp : rn_pm f) : rn_pm (rn_lds i f) := by
  intro mc ms MC MS vs h nx pc al st c z c' z'
  unfold rn_lds
  dsimp only
  cases rn_find i al with
  | none => rfl
  | some a =>
    dsimp only
    cases rn_ea vs a with
    | none => rfl
    | some L => exact rn_cat3_pm hp (fun v => (vs, h, nx, pc, (i, v) :: al, st)) mc ms MC MS c z c' z' L
theorem rn_pm_fps {i : Nat} {f : Nat → Nat → rn_S → Option (List rn_S)} (hp : rn_pm f) : rn_pm (rn_fps i f) := by
  intro mc ms MC MS vs h nx pc al st c z c' z'
  unfold rn_fps
  dsimp only
  split
  · rename_i j _
    cases h[j]? with
    | none => rfl
    | some o =>
      rcases o with o | o
      · exact rn_cat3_pm hp (fun w => (w, h, nx, pc, al, st)) mc ms MC MS c z c' z' (rn_fpv o.2 vs)
      · rfl
  · rfl
theorem rn_fs_na {kd n : Nat} : rn_fs (rn_na kd n) := by
  rintro mc ms MC MS a b ⟨vs, h, nx, pc, al, st, c, z⟩ l h1 h2 hf
  unfold rn_na at hf ⊢
  dsimp only [rn_up] at hf ⊢
  rcases st with _ | ⟨x, r⟩
  · cases hf
  · dsimp only at hf ⊢
    cases hI : rn_isI x with
    | false => rw [hI] at hf; cases hf
    | true =>
      rw [hI, cond_true] at hf
      rw [cond_true]
      cases hN : rn_ix vs x with
      | none => rw [hN] at hf; cases hf
      | some N =>
        rw [hN] at hf
        dsimp only at hf ⊢
        cases hc : (Nat.ble N 1000 && Nat.ble (c + 1) mc && Nat.ble (z + N) ms) with
        | false => rw [hc] at hf; cases hf
        | true =>
          rw [hc] at hf
          cases hf
          simp only [Bool.and_eq_true] at hc
          rw [hc.1.1, rn_ble hc.1.2 (fun _ => by omega) (y := c + a + 1) (MC := MC), rn_ble hc.2 (fun _ => by omega) (y := z + b + N) (MC := MS)]
          show some [_] = some [_]
          rw [show c + a + 1 = c + 1 + a by omega, show z + b + N = z + N + b by omega]
          rfl
/-! the runner of a loop's body: from nothing made, in a room of its own -/
noncomputable def rn_cl9 (M : Nat → rn_D) (T : Nat → Nat → Option rn_T) (gen : Nat → Option (rn_A → rn_O → rn_O)) (n d : Nat) : Nat → rn_A → rn_R := fun nu a => match d with
  | 0 => none
  | d' + 1 => cond (Nat.ble (a.2.2.2.map rn_cat).sum (M nu).2.2.1) (match rn_run0 M T gen n d' nu (rn_ent a) with
    | none => none
    | some os => cond (rn_nocut os) (some (rn_gm ((gen nu).map fun f => f a) os)) none) none
noncomputable def rn_run1 (M : Nat → rn_D) (T : Nat → Nat → Option rn_T) (gen : Nat → Option (rn_A → rn_O → rn_O)) (n0 d : Nat) (t : Nat → Option rn_T) (mc ms : Nat) (n : Nat) : rn_S → rn_R := Nat.rec (motive := fun _ => rn_S → rn_R) (fun _ => none) (fun _ ih S => match t S.2.2.2.1 with
  | none => none
  | some tr => tr mc ms ih (rn_cl9 M T gen n0 d) S) n
theorem rn_cl9_ok {M : Nat → rn_D} {T : Nat → Nat → Option rn_T} {gen : Nat → Option (rn_A → rn_O → rn_O)} (hT : ∀ (mu pc : Nat) (tr : rn_T), T mu pc = some tr → rn_TS M (M mu).1.cls (M mu).2.1 (M mu).2.2.1 (rn_hh (M mu)) pc tr)
    (hP : ∀ (mu : Nat) (tr : rn_T), T mu 0 = some tr → plainName (M mu).1.cls = true) {n d nu : Nat} {a : rn_A} {o' : List rn_O} (hc : rn_cl9 M T gen n d nu a = some o') {l : Launch} {D : va_G} {cA : Nat → ClassId} {N0 : Nat} {E : rn_E} (hst : l.stackTraces = false) : rn_CM M l D cA N0 E d nu a o' := by
  have ih := rn_sound hT hP (gen := gen) n
  unfold rn_cl9 at hc
  cases d with
  | zero => cases hc
  | succ d' =>
    dsimp only at hc
    cases hbl : Nat.ble (a.2.2.2.map rn_cat).sum (M nu).2.2.1 with
    | false => rw [hbl] at hc; cases hc
    | true =>
      rw [hbl, cond_true] at hc
      have hbl := Nat.le_of_ble_eq_true hbl
      cases hr : rn_run0 M T gen n d' nu (rn_ent a) with
      | none => rw [hr] at hc; cases hc
      | some os =>
        rw [hr] at hc
        dsimp only at hc
        cases hnc : rn_nocut os with
        | false => rw [hnc] at hc; cases hc
        | true =>
          rw [hnc, cond_true] at hc
          have hos : o' = rn_gm ((gen nu).map fun f => f a) os := (Option.some.inj hc).symm
          have hplain : plainName (M nu).1.cls = true := by
            cases n with
            | zero => cases hr
            | succ n =>
              have hr : rn_go0 M T gen (rn_run0 M T gen n) d' nu (rn_ent a) = some os := hr
              unfold rn_go0 at hr
              cases ht0 : T nu (rn_ent a).2.2.2.1 with
              | none => rw [ht0] at hr; cases hr
              | some tr0 => exact hP nu tr0 ht0
          refine ⟨d', rfl, fun G => ?_⟩
          have body : ∀ (p : Program) (e : Env) (s : State) (m : MethodId) (args : Array Value) (below : List Frame) (meth : Method) (c : Code) (s₁ : State), BodyLoose p l (M nu).1 (headSpec (rn_ws (M nu)) (rn_rm d' (M nu).2.2.2.2.2.1 (M nu).2.2.2.2.2.2)) (M nu).2.1 (M nu).2.2.1 (M nu).2.2.2.1 e s m args below meth c s₁ → c.maxLocals = (M nu).2.2.1 → c.exceptionTable.toList = tableOf (M nu).2.2.2.2.1 → rn_Pc D cA N0 E G a args s →
              W p l e (headSpec (rn_ws (M nu)) (rn_rm d' (M nu).2.2.2.2.2.1 (M nu).2.2.2.2.2.2)).room s m args below meth c s.heap [] 0 0 (vx_MQ below (rn_Qc D cA N0 E G o') (rn_XC D cA N0 E G o') args s (M nu).2.2.2.2.2.1 (M nu).2.2.2.2.2.2 (rn_hi N0)) (entryFrame m args (M nu).2.2.1) := by
            intro p e s m args below meth c s₁ B hml htb hv
            obtain ⟨ws9, av, rfl, hgs, hv1, hv2, hv3, hv4, hv5, hv6, hv7, hv8⟩ := hv
            have hts0 := atoms_spec (ws := rn_ws (M nu)) B.pre
            have hts : ∀ w ∈ rn_ALL, w.before av.toArray s = true := fun w hw => hts0 w (List.mem_cons_of_mem _ hw)
            have hFr : rn_Fr (M nu).1.cls (M nu).2.1 (M nu).2.2.1 (rn_hh (M nu)) d' (M nu).2.2.2.2.2.1 (M nu).2.2.2.2.2.2 (p, l, e, (headSpec (rn_ws (M nu)) (rn_rm d' (M nu).2.2.2.2.2.1 (M nu).2.2.2.2.2.2)).room, s, m, av.toArray, below, meth, c, D, cA, N0, E, G, vx_MQ below (rn_Qc D cA N0 E G o') (rn_XC D cA N0 E G o') av.toArray s (M nu).2.2.2.2.2.1 (M nu).2.2.2.2.2.2 (rn_hi N0)) :=
              ⟨B.exec, B.bytes, hml, findClass_of_methodNamed B.named, hts, B.notSynchronized, hv6, hv7, hv8, ⟨htb, (name_of_methodNamed B.named B.method).1, B.returns⟩, Nat.le_refl _, Nat.le_refl _, Nat.le_refl _, Nat.le_refl _, hst⟩
            have key := ih d' nu (rn_ent a) os hr _ hFr (fun o ho => rn_end_ok hos B.exec B.bytes B.notSynchronized ho (rn_nocut_ok hnc o ho))
            have hl := lv_entry av (n := (M nu).2.2.1) (by rw [rn_sl, rn_gs.cats hgs]; exact hbl)
            rw [lg_entry_eq]
            exact key G ws9 s.heap [] _ [] ⟨rn_ext.rf, hv1, hv2, hv3, hv4, hv5, va_S.rf⟩ ⟨_, hl, rn_arg_ok 0 hgs⟩ trivial
          cases hhd : (M nu).2.2.2.2.1 with
          | nil =>
            refine vx_ofW (cc := (M nu).2.1) (maxL := (M nu).2.2.1) (ret := (M nu).2.2.2.1) hplain (rn_we hhd) ?_
            intro p e s m args below meth c s₁ B hml htb hv
            refine body p e s m args below meth c s₁ B hml ?_ hv
            rw [hhd]
            cases htl : c.exceptionTable.toList with
            | nil => rfl
            | cons x xs => exact (htb x (by rw [htl]; exact List.mem_cons_self)).elim
          | cons q hh =>
            refine vx_ofWH (cc := (M nu).2.1) (maxL := (M nu).2.2.1) (ret := (M nu).2.2.2.1) (hh := (M nu).2.2.2.2.1) hplain (rn_weX hhd) ?_
            intro p e s m args below meth c s₁ B hml hv
            refine body p e s m args below meth c s₁ B hml ?_ hv
            have hts0 := atoms_spec (ws := rn_ws (M nu)) B.pre
            exact vx_table (x := (M nu).1) B (hts0 _ (by rw [rn_weX hhd]; exact List.mem_cons_self))
theorem rn_W_wid {nL : Nat} {B : rn_B} {vs : List (List Nat)} {h : List rn_C} {nx pc : Nat} {al : List (Nat × rn_V)} {st : List rn_V} {c z c' z' : Nat} (h1 : c ≤ c') (h2 : z ≤ z') (hw : rn_W nL B (vs, h, nx, pc, al, st, c', z')) : rn_W nL B (vs, h, nx, pc, al, st, c, z) := by
  intro G ws H locs ls stk hR hL hs
  exact W.widen h1 h2 (hw G ws H locs ls stk hR hL hs)
theorem rn_sound1 {M : Nat → rn_D} {T : Nat → Nat → Option rn_T} {gen : Nat → Option (rn_A → rn_O → rn_O)} (hT : ∀ (mu pc : Nat) (tr : rn_T), T mu pc = some tr → rn_TS M (M mu).1.cls (M mu).2.1 (M mu).2.2.1 (rn_hh (M mu)) pc tr)
    (hP : ∀ (mu : Nat) (tr : rn_T), T mu 0 = some tr → plainName (M mu).1.cls = true) {own : String} {cc : ByteArray} {nL : Nat} {hh : rn_H} {t : Nat → Option rn_T} (ht : ∀ (pc : Nat) (tr : rn_T), t pc = some tr → rn_TS M own cc nL hh pc tr ∧ rn_sh tr) {n0 d mc ms MC MS a b : Nat} (hm1 : mc + a ≤ MC) (hm2 : ms + b ≤ MS) : ∀ (n : Nat) (S : rn_S) (outs : List rn_O), rn_run1 M T gen n0 d t mc ms n S = some outs →
    ∀ B : rn_B, rn_Fr own cc nL hh d MC MS B → (∀ o ∈ outs, rn_End nL cc MC MS B (rn_uo a b o)) → rn_W nL B (rn_up a b S) := by
  intro n
  induction n with
  | zero =>
    intro S outs h
    cases h
  | succ n ih =>
    intro S outs h B hF hE
    have h : (match t S.2.2.2.1 with
      | none => none
      | some tr => tr mc ms (rn_run1 M T gen n0 d t mc ms n) (rn_cl9 M T gen n0 d) S) = some outs := h
    cases htr : t S.2.2.2.1 with
    | none => rw [htr] at h; cases h
    | some tr =>
      rw [htr] at h
      dsimp only at h
      obtain ⟨h1, h2⟩ := ht _ _ htr
      have h3 := h2 mc ms MC MS a b _ _ S outs hm1 hm2 h
      refine h1 B d MC MS _ _ (rn_up a b S) (outs.map (rn_uo a b)) hF ?_ h3 ?_ ?_ ?_
      · obtain ⟨vs, hp, nx, pc, al, st, c, z⟩ := S
        rfl
      · intro S' o' hk hsub
        have hk : (rn_run1 M T gen n0 d t mc ms n (rn_dn a b S')).map (List.map (rn_uo a b)) = some o' := hk
        cases hr : rn_run1 M T gen n0 d t mc ms n (rn_dn a b S') with
        | none => rw [hr] at hk; cases hk
        | some o2 =>
          rw [hr] at hk
          cases hk
          have key := ih (rn_dn a b S') o2 hr B hF (fun o ho => by
            obtain ⟨o3, g1, g2⟩ := List.mem_map.mp (hsub _ (List.mem_map.mpr ⟨o, ho, rfl⟩))
            rw [← g2]
            exact hE o3 g1)
          obtain ⟨vs, hp, nx, pc, al, st, c, z⟩ := S'
          exact rn_W_wid (c' := c - a + a) (z' := z - b + b) (by omega) (by omega) key
      · intro nu q o' hc
        obtain ⟨p0, l, e0, R0, s0, m0, args0, below0, meth0, c0, D, cA, N0, E, G0, Q0⟩ := B
        obtain ⟨-, -, -, -, -, -, -, -, -, -, -, -, -, -, hst⟩ := hF
        exact rn_cl9_ok hT hP hc hst
      · intro o ho
        obtain ⟨o3, g1, rfl⟩ := List.mem_map.mp ho
        exact hE o3 g1
end RNZ
