/-! WHAT THE METHODS ANSWER: small ones of class and reference. -/
theorem zite0 {c : Prop} [Decidable c] : ((if c then (1 : Int) else 0) = 0) = ¬ c := by
  by_cases h : c <;> simp [h]
theorem zite1 {c : Prop} [Decidable c] : ((if c then (1 : Int) else 0) = 1) = c := by
  by_cases h : c <;> simp [h]
theorem zite01 {c : Prop} [Decidable c] : (((if c then (1 : Int) else 0) = 0) ∨ ((if c then (1 : Int) else 0) = 1)) = True := by
  by_cases h : c <;> simp [h]
theorem znn {c : Prop} : (¬ c ∨ c) = True := eq_true (by by_cases h : c; exact Or.inr h; exact Or.inl h)
def zthird (a b : Int) : Int := if 0 ≠ a ∧ 0 ≠ b then 0 else if 1 ≠ a ∧ 1 ≠ b then 1 else 2
def zswap (a b at' : Int) : Int := if at' = a then b else if at' = b then a else at'
def zlooks (k a b : Int) : Int := if k = 4 then zthird a b else b
def zthing (k a b at' : Int) : Int := if k = 1 then at' else if k = 4 then (if at' = a then b else if at' = b then zthird a b else if at' = zthird a b then a else at') else zswap a b at'
def zpea (k a b at' : Int) : Int := if k = 2 ∧ at' = a then -1 else if k = 3 ∧ at' = -1 then b else zthing k a b at'
def zslip (k s : Int) : Int := if k = 5 then 0 else if k = 6 then (if 10 < 2 * s then 10 else 2 * s) else s
section
variable {X : zX} {d : Nat} {σ : zMem}
theorem zq_X_within {v a b : Int} : zcal X zP (d + 1) 134 [.inl v, .inl a, .inl b] σ = some (some (.inl (if a ≤ v ∧ v ≤ b then 1 else 0)), σ) := by
  refine ((zcal_go zp_X_within rfl).trans zb_X_within_0).trans ?_
  by_cases h1 : v < a
  · rw [if_pos h1, if_neg (by omega)]
  · rw [if_neg h1]
    by_cases h2 : b < v
    · rw [if_pos h2, if_neg (by omega)]
    · rw [if_neg h2, if_pos (by omega)]
theorem zq_X_swapped {a b v : Int} : zcal X zP (d + 1) 137 [.inl a, .inl b, .inl v] σ = some (some (.inl (zswap a b v)), σ) := by
  refine ((zcal_go zp_X_swapped rfl).trans zb_X_swapped_0).trans ?_
  unfold zswap
  split
  · rfl
  · split <;> rfl
theorem zq_X_next {v n : Int} (h : 0 ≤ v ∧ v < 100) : zcal X zP (d + 1) 138 [.inl v, .inl n] σ = some (some (.inl (if v + 1 < n then v + 1 else 0)), σ) := by
  refine ((zcal_go zp_X_next rfl).trans zb_X_next_0).trans ?_
  have e : w32 (v + 1) = v + 1 := by unfold w32; omega
  rw [e]
  split <;> rfl
theorem zq_Pass_third {p : Nat} (hp : σ.2.2.1 p = (1, (2, 0))) (hab : σ.1 p 1 ≠ σ.1 p 2) : zcal X zP (d + 1) 7 [.inr (.inr (.inl p))] σ = some (some (.inl (zthird (σ.1 p 1) (σ.1 p 2))), σ) := by
  refine ((zcal_go zp_Pass_third rfl).trans zb_Pass_third_0).trans ?_
  rw [zb_Pass_third_2, if_pos (by decide), if_pos hp]
  unfold zthird
  have e1 : w32 (0 + 1) = 1 := by decide
  have e2 : w32 (1 + 1) = 2 := by decide
  have key : (0 = σ.1 p 1 ∨ 0 = σ.1 p 2) → zgo X (zcal X zP d) zc_Pass_third 2 [some (.inr (.inr (.inl p))), some (.inl (w32 (0 + 1)))] [] σ = some (some (.inl (if 1 ≠ σ.1 p 1 ∧ 1 ≠ σ.1 p 2 then 1 else 2)), σ) := by
    intro h0
    rw [e1, zb_Pass_third_2, if_pos (by decide), if_pos hp]
    have key2 : (1 = σ.1 p 1 ∨ 1 = σ.1 p 2) → zgo X (zcal X zP d) zc_Pass_third 2 [some (.inr (.inr (.inl p))), some (.inl (w32 (1 + 1)))] [] σ = some (some (.inl 2), σ) := by
      intro h1
      rw [e2, zb_Pass_third_2, if_pos (by decide), if_pos hp, if_neg (by omega), if_pos hp, if_neg (by omega)]
    by_cases h1 : 1 = σ.1 p 1
    · rw [if_pos h1, if_neg (by omega), key2 (Or.inl h1)]
    · rw [if_neg h1, if_pos hp]
      by_cases h2 : 1 = σ.1 p 2
      · rw [if_pos h2, if_neg (by omega), key2 (Or.inr h2)]
      · rw [if_neg h2, if_pos ⟨h1, h2⟩]
  by_cases h1 : 0 = σ.1 p 1
  · rw [if_pos h1, if_neg (by omega), key (Or.inl h1)]
  · rw [if_neg h1, if_pos hp]
    by_cases h2 : 0 = σ.1 p 2
    · rw [if_pos h2, if_neg (by omega), key (Or.inr h2)]
    · rw [if_neg h2, if_pos ⟨h1, h2⟩]
theorem zq_Pass_looksTo {p : Nat} (hp : σ.2.2.1 p = (1, (2, 0))) (hab : σ.1 p 1 ≠ σ.1 p 2) : zcal X zP (d + 2) 8 [.inr (.inr (.inl p))] σ = some (some (.inl (zlooks (σ.1 p 0) (σ.1 p 1) (σ.1 p 2))), σ) := by
  refine ((zcal_go zp_Pass_looksTo rfl).trans zb_Pass_looksTo_0).trans ?_
  simp only [if_true, if_false, Option.bind_some, Option.bind, Option.toList, List.cons_append, List.nil_append, zite0, zite1, zite01, znn, ite_not, true_or, or_true, true_and, and_true, hp, zq_Pass_third hp hab, zb_Pass_looksTo_12, zlooks]
  split <;> rfl
theorem zq_Pass_whirled {p : Nat} {v : Int} (hp : σ.2.2.1 p = (1, (2, 0))) (hab : σ.1 p 1 ≠ σ.1 p 2) : zcal X zP (d + 2) 10 [.inr (.inr (.inl p)), .inl v] σ = some (some (.inl (if v = σ.1 p 1 then σ.1 p 2 else if v = σ.1 p 2 then zthird (σ.1 p 1) (σ.1 p 2) else if v = zthird (σ.1 p 1) (σ.1 p 2) then σ.1 p 1 else v)), σ) := by
  refine ((zcal_go zp_Pass_whirled rfl).trans zb_Pass_whirled_0).trans ?_
  simp only [if_true, if_false, Option.bind_some, Option.bind, Option.toList, List.cons_append, List.nil_append, zite0, zite1, zite01, znn, ite_not, true_or, or_true, true_and, and_true, hp, zq_Pass_third hp hab, zb_Pass_whirled_4]
  split
  · rfl
  · split
    · rfl
    · split <;> rfl
theorem zq_Pass_thingBehind {p : Nat} {v : Int} (hp : σ.2.2.1 p = (1, (2, 0))) (hab : σ.1 p 1 ≠ σ.1 p 2) : zcal X zP (d + 3) 9 [.inr (.inr (.inl p)), .inl v] σ = some (some (.inl (zthing (σ.1 p 0) (σ.1 p 1) (σ.1 p 2) v)), σ) := by
  refine ((zcal_go zp_Pass_thingBehind rfl).trans zb_Pass_thingBehind_0).trans ?_
  rw [if_pos hp]
  unfold zthing
  by_cases h1 : σ.1 p 0 = 1
  · rw [h1, zb_Pass_thingBehind_4_1, if_pos rfl]
  · by_cases h2 : σ.1 p 0 = 4
    · rw [h2, zb_Pass_thingBehind_4_4]
      simp only [if_true, if_false, Option.bind_some, Option.bind, Option.toList, List.cons_append, List.nil_append, zite0, zite1, zite01, znn, ite_not, true_or, or_true, true_and, and_true, hp, zq_Pass_whirled hp hab, zb_Pass_thingBehind_39]
      rfl
    · rw [zb_Pass_thingBehind_4_d h1 h2, zb_Pass_thingBehind_40, if_neg h1, if_neg h2]
      simp only [if_true, if_false, Option.bind_some, Option.bind, Option.toList, List.cons_append, List.nil_append, zite0, zite1, zite01, znn, ite_not, true_or, or_true, true_and, and_true, hp, zq_X_swapped, zb_Pass_thingBehind_52]
theorem zq_Pass_peaBehind {p : Nat} {v : Int} (hp : σ.2.2.1 p = (1, (2, 0))) (hab : σ.1 p 1 ≠ σ.1 p 2) : zcal X zP (d + 4) 11 [.inr (.inr (.inl p)), .inl v] σ = some (some (.inl (zpea (σ.1 p 0) (σ.1 p 1) (σ.1 p 2) v)), σ) := by
  refine ((zcal_go zp_Pass_peaBehind rfl).trans zb_Pass_peaBehind_0).trans ?_
  simp only [if_true, if_false, Option.bind_some, Option.bind, Option.toList, List.cons_append, List.nil_append, zite0, zite1, zite01, znn, ite_not, true_or, or_true, true_and, and_true, hp, zq_Pass_thingBehind hp hab, zb_Pass_peaBehind_41]
  unfold zpea
  by_cases h1 : σ.1 p 0 = 2 <;> by_cases h2 : v = σ.1 p 1 <;> by_cases h3 : σ.1 p 0 = 3 <;> by_cases h4 : v = -1 <;> simp only [h1, h2, h3, h4, if_true, if_false, and_true, and_false, true_and, false_and, and_self] <;> first | rfl | omega | simp_all
theorem zq_Pass_slipOf {p : Nat} {v : Int} (hp : σ.2.2.1 p = (1, (2, 0))) (hv : 0 ≤ v ∧ v ≤ 10) : zcal X zP (d + 1) 12 [.inr (.inr (.inl p)), .inl v] σ = some (some (.inl (zslip (σ.1 p 0) v)), σ) := by
  refine ((zcal_go zp_Pass_slipOf rfl).trans zb_Pass_slipOf_0).trans ?_
  rw [if_pos hp]
  unfold zslip
  have e : w32 (2 * v) = 2 * v := by unfold w32; omega
  by_cases h1 : σ.1 p 0 = 5
  · rw [h1, zb_Pass_slipOf_4_5, if_pos rfl]
  · by_cases h2 : σ.1 p 0 = 6
    · rw [h2, zb_Pass_slipOf_4_6, e]
      rfl
    · rw [zb_Pass_slipOf_4_d h1 h2, zb_Pass_slipOf_43, if_neg h1, if_neg h2]
end
