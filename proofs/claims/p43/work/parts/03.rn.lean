section RNB
/-- the state of a run within one method: what each variable may be, the world, how many named ints, the place in the code, locals, stack, cells and slots made -/
abbrev rn_S : Type := List (List Nat) × List rn_C × Nat × Nat × List (Nat × rn_V) × List rn_V × Nat × Nat
/-- an end: returned, threw (which), or stopped at a place -/
abbrev rn_O : Type := List (List Nat) × List rn_C × Nat × (Option rn_V ⊕ Nat ⊕ (Nat × List (Nat × rn_V) × List rn_V × Nat × Nat))
abbrev rn_R : Type := Option (List rn_O)
/-- a call: variables, world, named ints, arguments -/
abbrev rn_A : Type := List (List Nat) × List rn_C × Nat × List rn_V
/-- what an instruction does: own budget, how to go on, how to call -/
abbrev rn_T : Type := Nat → Nat → (rn_S → rn_R) → (Nat → rn_A → rn_R) → rn_S → rn_R
/-- a method's handlers, its name, what it returns -/
abbrev rn_H : Type := List (Nat × Nat × Nat × Nat) × String × Option FieldType
/-- a method: name, code, locals, what it returns, handlers, budget -/
abbrev rn_D : Type := MethodName × ByteArray × Nat × Option FieldType × List (Nat × Nat × Nat × Nat) × Nat × Nat
abbrev rn_B : Type := Program × Launch × Env × Room × State × MethodId × Array Value × List Frame × Method × Code × va_G × (Nat → ClassId) × Nat × rn_E × rn_G × (State → Prop)
abbrev rn_cl : List vw_C := [(RJx4a65c, TJx4a65c, 3), (RX0, TX0, 3), (RX1, TX1, 14), (RX2, TX2, 10), (RX3, TX3, 7), (RX4, TX4, 2), (RX5, TX5, 11), (RX6, TX6, 3), (RX7, TX7, 10)]
def rn_ob : FieldType := .object "java/lang/Object"
abbrev rn_tys (cA : Nat → ClassId) : List (ClassId × FieldType) := [(cA 0, .int), (cA 1, .long), (cA 2, .boolean), (cA 3, .object "java/lang/Object")]
def rn_ALL : List Cond := lw_tbl.filter goodWord
theorem rn_in {w : Cond} {i : Nat} (h : lw_tbl[i]? = some w) (g : goodWord w = true) : w ∈ rn_ALL := List.mem_filter.mpr ⟨List.mem_of_getElem? h, g⟩
theorem rn_good : ∀ w ∈ rn_ALL, (w.onTables && w.keeps) = true ∨ ∃ ty, w = .arrayClass ty := fun _ h => good_of_word (List.mem_filter.mp h).2
theorem rn_GI {ws : List Cond} (h : ∀ w ∈ ws, w ∈ rn_ALL) : GoodIn rn_ALL ws := fun w hw => ⟨h w hw, rn_good w (h w hw)⟩
/-- the words of a method: its code, and all good words -/
def rn_ws (M : rn_D) : List Cond := (match M.2.2.2.2.1 with | [] => Cond.code M.1 M.2.1 M.2.2.1 M.2.2.2.1 | hh => Cond.codeWith M.1 M.2.1 M.2.2.1 M.2.2.2.1 hh) :: rn_ALL
/-- exceptions by number -/
def rn_xn : Nat → String
  | 0 => "java/lang/IndexOutOfBoundsException"
  | 1 => "java/lang/IllegalArgumentException"
  | 2 => "java/lang/IllegalStateException"
  | 3 => "java/lang/UnsupportedOperationException"
  | 4 => "java/util/NoSuchElementException"
  | _ => "java/lang/ArithmeticException"
/-- which words of the start are no good words, and are carried by premises of their own: nest mates, castable -/
def rn_badw : Cond → Bool
  | .fieldLinkNest .. => true
  | .methodLinkNest .. => true
  | .castable .. => true
  | .declares .. => true
  | _ => false
def rn_hi (N0 : Nat) : Nat → Prop := fun q => N0 ≤ q
/-- what a heap below N0 holds, and the tables' words of other kinds -/
def rn_F (E : rn_E) (N0 : Nat) (s : State) : Prop :=
  vx_Zq Bundle.tN "UNASSIGNED_STACK" Bundle.steD (rn_hi N0) s s.heap ∧ vx_Zq Bundle.tN "SUPPRESSED_SENTINEL" Bundle.listD (rn_hi N0) s s.heap ∧
  va_Z "java/util/ArrayList" "DEFAULTCAPACITY_EMPTY_ELEMENTDATA" "[Ljava/lang/Object;" (.ref E.2.2.2.2) (rn_hi N0) s s.heap ∧
  (∃ f, va_T (.object "java/lang/Object") E.2.2.2.2 0 f (rn_hi N0) s s.heap) ∧
  (∃ (L : Nat) (xs : Nat → Int32), L ≤ 260 ∧ va_X E.2.2.2.1 L xs s s.heap) ∧ E.2.2.2.1 < N0 ∧ E.2.2.2.2 < N0 ∧
  (∀ w ∈ lw_tbl, rn_badw w = true → va_Nw w s) ∧
  (∀ (o : String) (k : Nat) (tx : String), Cond.stringRef o k tx ∈ lw_tbl → ∃ a, vk_R o k tx a s) ∧
  (∀ C : String, Cond.arrayOver (.object C) ∈ lw_tbl → va_AO C s) ∧
  (∀ X T : Nat, rn_xn X ≠ rn_xn T → va_Nc (rn_xn X) (rn_xn T) s) ∧ E.2.2.1 ≤ 1000000
def rn_Fr (own : String) (cc : ByteArray) (nL : Nat) (hh : rn_H) (d mc ms : Nat) : rn_B → Prop := fun (p, l, _, R, s, m, args, _, meth, c, D, cA, N0, E, _, _) =>
  p.tables.exec = Jvm.exec ∧ c.code = cc ∧ c.maxLocals = nL ∧ s.vm.findClass own = some m.cls ∧ (∀ w ∈ rn_ALL, w.before args s = true) ∧ meth.locks = false ∧
  va_K D rn_cl (rn_tys cA) s ∧ N0 ≤ s.heap.size ∧ rn_F E N0 s ∧ (c.exceptionTable.toList = tableOf hh.1 ∧ meth.name = hh.2.1 ∧ meth.sig.returnType = hh.2.2) ∧ d + 8 ≤ R.frames ∧ 200 * (d + 1) ≤ R.locals ∧ mc ≤ R.cells ∧ ms ≤ R.slots ∧ l.stackTraces = false
def rn_Rel : rn_B → rn_G → List (List Nat) → List rn_C → Nat → va_W → Heap → List Loc → Prop := fun (_, _, _, _, s, _, _, _, _, _, D, cA, N0, E, G0, _) G vs h nx ws H locs =>
  rn_ext G0 G ∧ (∀ (x : Nat) (l : List Nat), vs[x]? = some l → E.1 x ∈ l) ∧ G.2.length = nx ∧ rn_w E G cA h ws ∧ va_P D rn_cl ws H ∧ va_D (rn_hi N0) ws ∧ va_S (rn_hi N0) s.heap H locs
def rn_W (nL : Nat) : rn_B → rn_S → Prop := fun B S =>
  ∀ (G : rn_G) (ws : va_W) (H : Heap) (locs : List Loc) (ls : Array Slot) (stk : List Value), rn_Rel B G S.1 S.2.1 S.2.2.1 ws H locs → rn_L B.2.2.2.2.2.2.2.2.2.2.2.2.2.1 G ls nL S.2.2.2.2.1 → rn_gs B.2.2.2.2.2.2.2.2.2.2.2.2.2.1 G S.2.2.2.2.2.1 stk →
    W B.1 B.2.1 B.2.2.1 B.2.2.2.1 B.2.2.2.2.1 B.2.2.2.2.2.1 B.2.2.2.2.2.2.1 B.2.2.2.2.2.2.2.1 B.2.2.2.2.2.2.2.2.1 B.2.2.2.2.2.2.2.2.2.1 H locs S.2.2.2.2.2.2.1 S.2.2.2.2.2.2.2 B.2.2.2.2.2.2.2.2.2.2.2.2.2.2.2 (F0 B.2.2.2.2.2.1 S.2.2.2.1 ls stk)
/-- an end's value -/
def rn_ro (E : rn_E) (G : rn_G) : Option rn_V → Option Value → Prop
  | none, none => True
  | some a, some v => rn_g E G a v
  | _, _ => False
def rn_ri : Option Value → Instr → Prop := fun u i => (u = none ∧ i = .return_) ∨ (∃ y, u = some (.int y) ∧ i = .ireturn) ∨ (∃ y, u = some (.long y) ∧ i = .lreturn) ∨ ((u = some .null ∨ ∃ a, u = some (.ref a)) ∧ i = .areturn)
/-- what is returned fits -/
def rn_rp (rt : Option FieldType) : Option Value → Prop := fun u => match u with
  | none => rt = none
  | some v => ∃ ty, rt = some ty ∧ narrow ty v = v ∧ fits ty v = true
def rn_End (nL : Nat) (cc : ByteArray) (mc ms : Nat) : rn_B → rn_O → Prop := fun (p, l, e, R, s, m, args, below, meth, c, D, cA, N0, E, G0, Q) o => match o.2.2.2 with
  | .inl r => ∀ (G : rn_G) (ws : va_W) (H : Heap) (locs : List Loc), rn_Rel (p, l, e, R, s, m, args, below, meth, c, D, cA, N0, E, G0, Q) G o.1 o.2.1 o.2.2.1 ws H locs → ∀ (pc : Nat) (ls : Array Slot) (u : Option Value) (i : Instr), rn_ro E G r u → rn_ri u i → rn_rp meth.sig.returnType u → decode cc pc = .ok (i, 1) →
      W p l e R s m args below meth c H locs mc ms Q (F0 m pc ls u.toList)
  | .inr (.inl x) => ∃ (Qc : Array Value → State → Outcome → State → Prop) (XC : String → State → State → Prop), Q = vx_MQ below Qc XC args s mc ms (rn_hi N0) ∧
      ∀ (G : rn_G) (ws : va_W) (H : Heap) (locs : List Loc), rn_Rel (p, l, e, R, s, m, args, below, meth, c, D, cA, N0, E, G0, Q) G o.1 o.2.1 o.2.2.1 ws H locs → ∀ t : State, s.vm.Alike t.vm → H.size ≤ t.heap.size → (∀ q : Nat, q < H.size → t.heap[q]? = H[q]?) → XC (rn_xn x) s t
  | .inr (.inr (pc, al, st, c0, z0)) => rn_W nL (p, l, e, R, s, m, args, below, meth, c, D, cA, N0, E, G0, Q) (o.1, o.2.1, o.2.2.1, pc, al, st, c0, z0)
/-- a contract's start -/
def rn_Pc (D : va_G) (cA : Nat → ClassId) (N0 : Nat) (E : rn_E) (G : rn_G) (a : rn_A) : Array Value → State → Prop := fun v U => ∃ (ws : va_W) (av : List Value), v = av.toArray ∧ rn_gs E G a.2.2.2 av ∧
  (∀ (x : Nat) (l : List Nat), a.1[x]? = some l → E.1 x ∈ l) ∧ G.2.length = a.2.2.1 ∧ rn_w E G cA a.2.1 ws ∧ va_P D rn_cl ws U.heap ∧ va_D (rn_hi N0) ws ∧ va_K D rn_cl (rn_tys cA) U ∧ N0 ≤ U.heap.size ∧ rn_F E N0 U
/-- what stands behind an end -/
def rn_Po (D : va_G) (cA : Nat → ClassId) (E : rn_E) (N0 : Nat) (G0 G : rn_G) (o : rn_O) (t : State) : Prop := ∃ ws : va_W, rn_ext G0 G ∧ (∀ (x : Nat) (l : List Nat), o.1[x]? = some l → E.1 x ∈ l) ∧ G.2.length = o.2.2.1 ∧ rn_w E G cA o.2.1 ws ∧ va_P D rn_cl ws t.heap ∧ va_D (rn_hi N0) ws
def rn_Qc (D : va_G) (cA : Nat → ClassId) (N0 : Nat) (E : rn_E) (G0 : rn_G) (outs : List rn_O) : Array Value → State → Outcome → State → Prop := fun _ st oc t =>
  (∃ o ∈ outs, ∃ (r : Option rn_V) (u : Option Value) (G : rn_G), o.2.2.2 = .inl r ∧ oc = .returned u ∧ rn_ro E G r u ∧ rn_Po D cA E N0 G0 G o t) ∧ va_F (rn_hi N0) st t
def rn_XC (D : va_G) (cA : Nat → ClassId) (N0 : Nat) (E : rn_E) (G0 : rn_G) (outs : List rn_O) : String → State → State → Prop := fun X st t =>
  (∃ o ∈ outs, ∃ (x : Nat) (G : rn_G), o.2.2.2 = .inr (.inl x) ∧ X = rn_xn x ∧ rn_Po D cA E N0 G0 G o t) ∧ va_F (rn_hi N0) st t
def rn_rm (d mc ms : Nat) : Room := { frames := d + 8, cells := mc, slots := ms, locals := 200 * (d + 1) }
/-- a call's contract -/
def rn_CM (M : Nat → rn_D) (l : Launch) (D : va_G) (cA : Nat → ClassId) (N0 : Nat) (E : rn_E) (d : Nat) (mu : Nat) (a : rn_A) (outs : List rn_O) : Prop :=
  ∃ d', d = d' + 1 ∧ ∀ G : rn_G, vx_Met l (M mu).1 (rn_ws (M mu)) (rn_rm d' (M mu).2.2.2.2.2.1 (M mu).2.2.2.2.2.2) (rn_Pc D cA N0 E G a) (rn_Qc D cA N0 E G outs) (rn_XC D cA N0 E G outs) (M mu).2.2.2.2.2.1 (M mu).2.2.2.2.2.2 (rn_hi N0)
/-- an instruction's work is what the machine does -/
def rn_TS (M : Nat → rn_D) (own : String) (cc : ByteArray) (nL : Nat) (hh : rn_H) (pc : Nat) (tr : rn_T) : Prop :=
  ∀ (B : rn_B) (d mc ms : Nat) (k : rn_S → rn_R) (call : Nat → rn_A → rn_R) (S : rn_S) (outs : List rn_O), rn_Fr own cc nL hh d mc ms B → S.2.2.2.1 = pc → tr mc ms k call S = some outs →
    (∀ (S' : rn_S) (o' : List rn_O), k S' = some o' → (∀ o ∈ o', o ∈ outs) → rn_W nL B S') →
    (∀ (mu : Nat) (a : rn_A) (o' : List rn_O), call mu a = some o' → rn_CM M B.2.1 B.2.2.2.2.2.2.2.2.2.2.1 B.2.2.2.2.2.2.2.2.2.2.2.1 B.2.2.2.2.2.2.2.2.2.2.2.2.1 B.2.2.2.2.2.2.2.2.2.2.2.2.2.1 d mu a o') →
    (∀ o ∈ outs, rn_End nL cc mc ms B o) → rn_W nL B S
theorem rn_F.tau {E : rn_E} {N0 : Nat} {s : State} (h : rn_F E N0 s) : E.2.2.1 ≤ 1000000 := h.2.2.2.2.2.2.2.2.2.2.2
/-! the kinds of values -/
def rn_isI (a : rn_V) : Bool := match a with
  | .inl _ => true
  | .inr (.inl _) => true
  | .inr (.inr (.inr (.inr (.inl _)))) => true
  | .inr (.inr (.inr (.inr (.inr (.inl _))))) => true
  | _ => false
def rn_isL (a : rn_V) : Bool := match a with
  | .inr (.inr (.inr (.inl k))) => Nat.beq k 3 || Nat.beq k 5
  | .inr (.inr (.inr (.inr (.inr (.inr _))))) => true
  | _ => false
def rn_isA (a : rn_V) : Bool := match a with
  | .inr (.inr (.inl _)) => true
  | .inr (.inr (.inr (.inl k))) => !(Nat.beq k 3 || Nat.beq k 5)
  | _ => false
theorem rn_g.int {E : rn_E} {G : rn_G} {a : rn_V} {u : Value} (h : rn_g E G a u) (hk : rn_isI a = true) : ∃ y : Int32, u = .int y := by
  rcases a with a | a | a | a | a | a | a
  · obtain ⟨y, e, -⟩ := h; exact ⟨y, e⟩
  · obtain ⟨y, e, -⟩ := h; exact ⟨y, e⟩
  · cases hk
  · cases hk
  · obtain ⟨y, e, -⟩ := h; exact ⟨y, e⟩
  · obtain ⟨y, -, e⟩ := h; exact ⟨y, e⟩
  · cases hk
theorem rn_g.long {E : rn_E} {G : rn_G} {a : rn_V} {u : Value} (h : rn_g E G a u) (hk : rn_isL a = true) : ∃ y : Int64, u = .long y := by
  rcases a with a | a | a | a | a | a | a
  · cases hk
  · cases hk
  · cases hk
  · rcases h with ⟨h, -⟩ | ⟨h, -⟩ | ⟨h, -⟩ | ⟨-, h⟩ | ⟨h, -⟩ | ⟨-, y, h, -⟩
    · subst h; cases hk
    · subst h; cases hk
    · subst h; cases hk
    · exact h
    · subst h; cases hk
    · exact ⟨y, h⟩
  · cases hk
  · cases hk
  · obtain ⟨y, -, e⟩ := h; exact ⟨_, e⟩
theorem rn_g.addr {E : rn_E} {G : rn_G} {a : rn_V} {u : Value} (h : rn_g E G a u) (hk : rn_isA a = true) : u = .null ∨ ∃ q, u = .ref q := by
  rcases a with a | a | a | a | a | a | a
  · cases hk
  · cases hk
  · obtain ⟨q, -, e⟩ := h; exact Or.inr ⟨q, e⟩
  · rcases h with ⟨-, h⟩ | ⟨-, h⟩ | ⟨-, h⟩ | ⟨h, -⟩ | ⟨-, h⟩ | ⟨h, -⟩
    · exact Or.inl h
    · exact Or.inr h
    · exact Or.inr ⟨_, h⟩
    · subst h; cases hk
    · exact Or.inr ⟨_, h⟩
    · subst h; cases hk
  · cases hk
  · cases hk
  · cases hk
end RNB
