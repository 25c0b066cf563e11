section RNO
def rn_h0 : Nat → Option (Option Nat) := fun _ => some none
theorem rn_h0n {hh : rn_H} {pc : Nat} (h : hh.1 = []) : ∀ x, rn_h0 x = some none → ∀ z ∈ tableOf hh.1, covers z pc = false := by
  intro x _ z hz
  rw [h] at hz
  cases hz
theorem rn_h0t {own : String} {hh : List (Nat × Nat × Nat × Nat)} {pc : Nat} : ∀ x t, rn_h0 x = some (some t) → rn_Ct own hh pc x t := by
  intro x t h
  cases h
def rn_hl (l : List (Nat × Nat)) : Nat → Option (Option Nat) := fun x => match l.find? (fun p => Nat.beq p.1 x) with
  | some p => some (some p.2)
  | none => none
theorem rn_hln {hh : rn_H} {pc : Nat} {l : List (Nat × Nat)} : ∀ x, rn_hl l x = some none → ∀ z ∈ tableOf hh.1, covers z pc = false := by
  intro x h
  unfold rn_hl at h
  split at h <;> cases h
theorem rn_hlt {own : String} {hh : List (Nat × Nat × Nat × Nat)} {pc : Nat} {cts : List (Nat × Nat)} (hc : ∀ q ∈ cts, Cond.classLink own q.1 (rn_xn q.2) ∈ rn_ALL) {l : List (Nat × Nat)} (hl : l.all (fun p => rn_cf cts pc p.1 p.2 hh && rn_wok (.castable (rn_xn p.1) (rn_xn p.1))) = true) : ∀ x t, rn_hl l x = some (some t) → rn_Ct own hh pc x t := by
  intro x t h
  unfold rn_hl at h
  split at h
  · rename_i p hp
    cases h
    have e0 : (fun p : Nat × Nat => Nat.beq p.1 x) p = true := List.find?_some (p := fun p : Nat × Nat => Nat.beq p.1 x) hp
    have e : p.1 = x := Nat.eq_of_beq_eq_true e0
    have h9 := List.all_eq_true.mp hl p (List.mem_of_find?_eq_some hp)
    rw [Bool.and_eq_true, e] at h9
    exact rn_cf_ok hc h9.2 h9.1
  · cases h
theorem rn_l1 {a : Cond} (h1 : a ∈ rn_ALL) : ∀ w ∈ [a], w ∈ rn_ALL := fun w hw => by
  have e : w = a := by simpa using hw
  rw [e]; exact h1
theorem rn_lc {a : Cond} {l : List Cond} (h1 : a ∈ rn_ALL) (h : ∀ w ∈ l, w ∈ rn_ALL) : ∀ w ∈ a :: l, w ∈ rn_ALL := fun w hw => (List.mem_cons.mp hw).elim (fun e => by rw [e]; exact h1) (h w)
theorem rn_all_of {l : List Cond} (h : l.all (fun w => decide (w ∈ lw_tbl) && goodWord w) = true) : ∀ w ∈ l, w ∈ rn_ALL := fun w hw => by
  have h9 := List.all_eq_true.mp h w hw
  rw [Bool.and_eq_true, decide_eq_true_eq] at h9
  exact List.mem_filter.mpr h9
end RNO
section RNO2
theorem rn_n3 {own : String} : ∀ q ∈ ([] : List (Nat × Nat)), Cond.classLink own q.1 (rn_xn q.2) ∈ rn_ALL := fun _ h => nomatch h
theorem rn_c3w {own : String} {a : Nat × Nat} {l : List (Nat × Nat)} (h : Cond.classLink own a.1 (rn_xn a.2) ∈ rn_ALL) (t : ∀ q ∈ l, Cond.classLink own q.1 (rn_xn q.2) ∈ rn_ALL) : ∀ q ∈ a :: l, Cond.classLink own q.1 (rn_xn q.2) ∈ rn_ALL := fun q hq => (List.mem_cons.mp hq).elim (fun e => by rw [e]; exact h) (t q)
end RNO2
