/-! WHAT THE METHODS ANSWER: the questions whether a number is within. -/
section
variable {X : zX} {d : Nat} {σ : zMem}
theorem zq_X_isKind {v : Int} : zcal X zP (d + 2) 128 [.inl v] σ = some (some (.inl (if 0 ≤ v ∧ v ≤ 6 then 1 else 0)), σ) := by
  refine ((zcal_go zp_X_isKind rfl).trans zb_X_isKind_0).trans ?_
  simp only [if_true, if_false, Option.bind_some, Option.bind, Option.toList, List.cons_append, List.nil_append, zite0, zite1, zite01, znn, ite_not, true_or, or_true, true_and, and_true, zq_X_within, zb_X_isKind_7]
theorem zq_X_isEye {v : Int} : zcal X zP (d + 2) 129 [.inl v] σ = some (some (.inl (if 0 ≤ v ∧ v ≤ 3 then 1 else 0)), σ) := by
  refine ((zcal_go zp_X_isEye rfl).trans zb_X_isEye_0).trans ?_
  simp only [if_true, if_false, Option.bind_some, Option.bind, Option.toList, List.cons_append, List.nil_append, zite0, zite1, zite01, znn, ite_not, true_or, or_true, true_and, and_true, zq_X_within, zb_X_isEye_6]
theorem zq_X_isPlayer {v : Int} : zcal X zP (d + 2) 130 [.inl v] σ = some (some (.inl (if 0 ≤ v ∧ v ≤ 3 then 1 else 0)), σ) := by
  refine ((zcal_go zp_X_isPlayer rfl).trans zb_X_isPlayer_0).trans ?_
  simp only [if_true, if_false, Option.bind_some, Option.bind, Option.toList, List.cons_append, List.nil_append, zite0, zite1, zite01, znn, ite_not, true_or, or_true, true_and, and_true, zq_X_within, zb_X_isPlayer_6]
theorem zq_X_isRounds {v : Int} : zcal X zP (d + 2) 131 [.inl v] σ = some (some (.inl (if 1 ≤ v ∧ v ≤ 10 then 1 else 0)), σ) := by
  refine ((zcal_go zp_X_isRounds rfl).trans zb_X_isRounds_0).trans ?_
  simp only [if_true, if_false, Option.bind_some, Option.bind, Option.toList, List.cons_append, List.nil_append, zite0, zite1, zite01, znn, ite_not, true_or, or_true, true_and, and_true, zq_X_within, zb_X_isRounds_7]
theorem zq_X_isSheet {v : Int} : zcal X zP (d + 2) 132 [.inl v] σ = some (some (.inl (if 0 ≤ v ∧ v ≤ 3 then 1 else 0)), σ) := by
  refine ((zcal_go zp_X_isSheet rfl).trans zb_X_isSheet_0).trans ?_
  simp only [if_true, if_false, Option.bind_some, Option.bind, Option.toList, List.cons_append, List.nil_append, zite0, zite1, zite01, znn, ite_not, true_or, or_true, true_and, and_true, zq_X_within, zb_X_isSheet_6]
theorem zcmp_lt {x y : Int} : (zcmp x y < 0) = (x < y) := by
  unfold zcmp
  by_cases h : x < y
  · simp [h]
  · by_cases h2 : x = y <;> simp [h, h2]
theorem zcmp_gt {x y : Int} : (0 < zcmp x y) = (y < x) := by
  unfold zcmp
  by_cases h : x < y
  · simp [h]; omega
  · by_cases h2 : x = y
    · simp [h2]
    · simp [h, h2]; omega
theorem zq_M_in {v a b : Int} : zcal X zP (d + 1) 141 [.inr (.inl v), .inr (.inl a), .inr (.inl b)] σ = some (some (.inl (if a ≤ v ∧ v ≤ b then 1 else 0)), σ) := by
  refine ((zcal_go zp_M_in rfl).trans zb_M_in_0).trans ?_
  simp only [zcmp_lt, zcmp_gt]
  by_cases h1 : v < a
  · rw [if_pos h1, if_neg (by omega)]
  · rw [if_neg h1]
    by_cases h2 : b < v
    · rw [if_pos h2, if_neg (by omega)]
    · rw [if_neg h2, if_pos (by omega)]
theorem zq_M_isFour {v : Int} : zcal X zP (d + 2) 145 [.inl v] σ = some (some (.inl (if 0 ≤ v ∧ v ≤ 3 then 1 else 0)), σ) := by
  refine ((zcal_go zp_M_isFour rfl).trans zb_M_isFour_0).trans ?_
  simp only [if_true, if_false, Option.bind_some, Option.bind, Option.toList, List.cons_append, List.nil_append, zite0, zite1, zite01, znn, ite_not, true_or, or_true, true_and, and_true, zq_M_in, zb_M_isFour_9]
theorem zq_M_isSheet {v : Int} : zcal X zP (d + 2) 232 [.inl v] σ = some (some (.inl (if 0 ≤ v ∧ v ≤ 3 then 1 else 0)), σ) := by
  refine ((zcal_go zp_M_isSheet rfl).trans zb_M_isSheet_0).trans ?_
  simp only [if_true, if_false, Option.bind_some, Option.bind, Option.toList, List.cons_append, List.nil_append, zite0, zite1, zite01, znn, ite_not, true_or, or_true, true_and, and_true, zq_M_in, zb_M_isSheet_9]
theorem zq_M_swapped {v a b : Int} : zcal X zP (d + 1) 148 [.inl v, .inl a, .inl b] σ = some (some (.inl (zswap a b v)), σ) := by
  refine ((zcal_go zp_M_swapped rfl).trans zb_M_swapped_0).trans ?_
  unfold zswap
  split
  · rfl
  · split <;> rfl
theorem zq_M_third {a b : Int} (hab : a ≠ b) : zcal X zP (d + 1) 147 [.inl a, .inl b] σ = some (some (.inl (zthird a b)), σ) := by
  refine ((zcal_go zp_M_third rfl).trans zb_M_third_0).trans ?_
  have e1 : w32 (0 + 1) = 1 := by decide
  have e2 : w32 (1 + 1) = 2 := by decide
  rw [zb_M_third_2]
  unfold zthird
  have key : (0 = a ∨ 0 = b) → zgo X (zcal X zP d) zc_M_third 2 [some (.inl a), some (.inl b), some (.inl (w32 (0 + 1)))] [] σ = some (some (.inl (if 1 ≠ a ∧ 1 ≠ b then 1 else 2)), σ) := by
    intro h0
    rw [e1, zb_M_third_2]
    have key2 : (1 = a ∨ 1 = b) → zgo X (zcal X zP d) zc_M_third 2 [some (.inl a), some (.inl b), some (.inl (w32 (1 + 1)))] [] σ = some (some (.inl 2), σ) := by
      intro h1
      rw [e2, zb_M_third_2, if_neg (by omega), if_neg (by omega)]
    by_cases h1 : 1 = a
    · rw [if_pos h1, if_neg (by omega), key2 (Or.inl h1)]
    · rw [if_neg h1]
      by_cases h2 : 1 = b
      · rw [if_pos h2, if_neg (by omega), key2 (Or.inr h2)]
      · rw [if_neg h2, if_pos ⟨h1, h2⟩]
  by_cases h1 : 0 = a
  · rw [if_pos h1, if_neg (by omega), key (Or.inl h1)]
  · rw [if_neg h1]
    by_cases h2 : 0 = b
    · rw [if_pos h2, if_neg (by omega), key (Or.inr h2)]
    · rw [if_neg h2, if_pos ⟨h1, h2⟩]
theorem zq_M_cupBy {k a b v : Int} (hab : a ≠ b) : zcal X zP (d + 2) 149 [.inl k, .inl a, .inl b, .inl v] σ = some (some (.inl (zthing k a b v)), σ) := by
  refine ((zcal_go zp_M_cupBy rfl).trans zb_M_cupBy_0).trans ?_
  simp only [if_true, if_false, Option.bind_some, Option.bind, Option.toList, List.cons_append, List.nil_append, zite0, zite1, zite01, znn, ite_not, true_or, or_true, true_and, and_true, zq_M_third hab, zb_M_cupBy_17, zq_M_swapped, zb_M_cupBy_56]
  unfold zthing
  by_cases h1 : k = 1
  · rw [if_pos h1, if_pos h1]
  · rw [if_neg h1, if_neg h1]
    by_cases h2 : k = 4
    · rw [if_pos h2, if_pos h2]
      split
      · rfl
      · split
        · rfl
        · split <;> rfl
    · rw [if_neg h2, if_neg h2]
theorem zthird_ge {a b : Int} : 0 ≤ zthird a b ∧ zthird a b ≤ 2 := by
  unfold zthird
  split
  · omega
  · split <;> omega
theorem zthing_hand {k a b : Int} (ha : 0 ≤ a) (hb : 0 ≤ b) : zthing k a b (-1) = -1 := by
  have := zthird_ge (a := a) (b := b)
  unfold zthing zswap
  rw [if_neg (show ¬ ((-1 : Int) = a) by omega), if_neg (show ¬ ((-1 : Int) = b) by omega), if_neg (show ¬ ((-1 : Int) = zthird a b) by omega), if_neg (show ¬ ((-1 : Int) = a) by omega), if_neg (show ¬ ((-1 : Int) = b) by omega)]
  split
  · rfl
  · split <;> rfl
theorem zthing_ge {k a b v : Int} (ha : 0 ≤ a) (hb : 0 ≤ b) (hv : 0 ≤ v) : 0 ≤ zthing k a b v := by
  have := zthird_ge (a := a) (b := b)
  unfold zthing zswap
  repeat' split
  all_goals omega
theorem zq_M_peaBy {k a b v : Int} (hab : a ≠ b) (ha : 0 ≤ a) (hb : 0 ≤ b) (hv : -1 ≤ v) : zcal X zP (d + 3) 150 [.inl k, .inl a, .inl b, .inl v] σ = some (some (.inl (zpea k a b v)), σ) := by
  refine ((zcal_go zp_M_peaBy rfl).trans zb_M_peaBy_0).trans ?_
  simp only [if_true, if_false, Option.bind_some, Option.bind, Option.toList, List.cons_append, List.nil_append, zite0, zite1, zite01, znn, ite_not, true_or, or_true, true_and, and_true, zq_M_cupBy hab, zb_M_peaBy_35]
  unfold zpea
  have h0 := zthing_hand (k := k) ha hb
  have h1 := zthing_ge (k := k) (v := v) ha hb
  by_cases k2 : k = 2
  · rw [if_pos k2, if_neg (show ¬ k = 3 by omega), if_neg (show ¬ (k = 3 ∧ v = -1) by omega)]
    by_cases e : v = a
    · rw [if_pos e, if_pos ⟨k2, e⟩]
    · rw [if_neg e, if_neg (show ¬ (k = 2 ∧ v = a) by omega)]
      by_cases e2 : v = -1
      · rw [if_pos e2, e2, h0]
        try rfl
      · rw [if_neg e2, if_neg (show ¬ k = 3 by omega)]
  · rw [if_neg k2, if_neg (show ¬ (k = 2 ∧ v = a) by omega)]
    by_cases e2 : v = -1
    · rw [if_pos e2]
      by_cases k3 : k = 3
      · rw [if_pos k3, if_pos ⟨k3, e2⟩]
      · rw [if_neg k3, if_neg (show ¬ (k = 3 ∧ v = -1) by omega), e2, h0]
    · rw [if_neg e2, if_neg (show ¬ zthing k a b v = -1 by have := h1 (by omega); omega), if_neg (show ¬ (k = 3 ∧ v = -1) by omega)]
      split <;> rfl
end
