/-! TEXT: the table stays one. -/
theorem zrdp_ok {B : Nat → Int} {n nn : Nat} {T : zTb} {t : zTo} {k : Int} (hk : 0 ≤ k ∧ k ≤ 6) (ho : zTOK nn T) : zTOK nn (zrdp B n T t k).2.2 := by
  unfold zrdp
  by_cases c1 : T.2.1 < 14
  · rw [if_pos c1]
    generalize znx1 B n t = t1
    by_cases c2 : zNm t1 0 (T.1 0 - 1)
    · rw [if_pos c2]
      generalize znx1 B n t1 = t2
      by_cases c3 : t2.1 = 2 ∧ t2.2.2.2 = t1.2.2.2
      · rw [if_pos c3]; exact ho
      · rw [if_neg c3]
        by_cases c4 : zNm t2 0 (T.1 0 - 1)
        · rw [if_pos c4]
          exact zTOK_add c1 hk c2.2 c4.2 (fun h => c3 ⟨c4.1, h.symm⟩) ho
        · rw [if_neg c4]; exact ho
    · rw [if_neg c2]; exact ho
  · rw [if_neg c1]; exact ho
theorem zrda_ok {X : zX} {B : Nat → Int} {n nn : Nat} {T : zTb} {t : zTo} (ho : zTOK nn T) : zTOK nn (zrda X B n T t).2.2 := by
  have h36 := ho.1
  unfold zrda
  generalize znx1 B n t = t1
  by_cases c1 : zWd X B t1 12
  · rw [if_pos c1]
    exact zTOK_setj (Or.inl rfl) (fun _ => by omega) (fun h => absurd h (by decide)) (fun h => absurd h (by decide)) ho
  · rw [if_neg c1]
    by_cases c2 : zNm t1 0 (T.1 0 - 1)
    · rw [if_pos c2]
      have := c2.2
      exact zTOK_setj (Or.inl rfl) (fun _ => by omega) (fun h => absurd h (by decide)) (fun h => absurd h (by decide)) ho
    · rw [if_neg c2]; exact ho
