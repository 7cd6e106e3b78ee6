/-! TEXT: the table stays one. -/
theorem zrdp_ok {B : Nat → Int} {n nn : Nat} {T : zTb} {t : zTo} {k : Int} (hk : 0 ≤ k ∧ k ≤ 6) (ho : zTOK nn T) : zTOK nn (zrdp B n T t k).2.2 := by
  unfold zrdp
  by_cases c1 : T.2.1 < 14
  · rw [if_pos c1]
    generalize znx1 B n t = t1
    by_cases c2 : zNm t1 0 (T.1 0 - 1)
    · rw [if_pos c2]
      generalize znx1 B n t1 = t2
      by_cases c3 : t2.1 = 2 ∧ t2.2.2.2 = t1.2.2.2
      · rw [if_pos c3]; exact ho
      · rw [if_neg c3]
        by_cases c4 : zNm t2 0 (T.1 0 - 1)
        · rw [if_pos c4]
          exact zTOK_add c1 hk c2.2 c4.2 (fun h => c3 ⟨c4.1, h.symm⟩) ho
        · rw [if_neg c4]; exact ho
    · rw [if_neg c2]; exact ho
  · rw [if_neg c1]; exact ho
theorem zrda_ok {X : zX} {B : Nat → Int} {n nn : Nat} {T : zTb} {t : zTo} (ho : zTOK nn T) : zTOK nn (zrda X B n T t).2.2 := by
  have h36 := ho.1
  unfold zrda
  generalize znx1 B n t = t1
  by_cases c1 : zWd X B t1 12
  · rw [if_pos c1]
    exact zTOK_setj (Or.inl rfl) (fun _ => by omega) (fun h => absurd h (by decide)) (fun h => absurd h (by decide)) ho
  · rw [if_neg c1]
    by_cases c2 : zNm t1 0 (T.1 0 - 1)
    · rw [if_pos c2]
      have := c2.2
      exact zTOK_setj (Or.inl rfl) (fun _ => by omega) (fun h => absurd h (by decide)) (fun h => absurd h (by decide)) ho
    · rw [if_neg c2]; exact ho
theorem zrde_ok {X : zX} {B : Nat → Int} {n nn : Nat} {T : zTb} {t : zTo} (ho : zTOK nn T) : zTOK nn (zrde X B n T t).2.2 := by
  unfold zrde
  generalize znx1 B n t = t1
  by_cases c1 : zNm t1 0 3
  · rw [if_pos c1]
    generalize znx1 B n t1 = t2
    by_cases c2 : zWd X B t2 14
    · rw [if_pos c2]
      generalize znx1 B n t2 = t3
      by_cases c3 : zNm t3 0 10
      · rw [if_pos c3]
        have e4 : t1.2.2.2.toNat < 4 := by have := c1.2; omega
        have hv := c3.2
        generalize t1.2.2.2.toNat = e at *
        exact zTOK_set (by omega) (fun h => by omega) (fun h => by omega) (fun h => by omega) (fun e' he' => ⟨fun _ => hv, fun h => by omega⟩) (fun p hp => ⟨fun h => by omega, fun h => by omega, fun h => by omega, fun h => by omega⟩) (fun s hs h => by omega) ho
      · rw [if_neg c3]; exact ho
    · rw [if_neg c2]; exact ho
  · rw [if_neg c1]; exact ho
theorem zrdo_ok {X : zX} {B : Nat → Int} {n nn e w : Nat} {T : zTb} {t : zTo} (he : e < 4) (hw : w < 3) (ho : zTOK nn T) : zTOK nn (zrdo X B n e w t T).2.2 := by
  unfold zrdo
  by_cases c1 : zWd X B t (16 + w)
  · rw [if_pos c1]
    generalize znx1 B n t = t1
    by_cases c2 : zNm t1 (zleast (w : Int)) (zmost (w : Int))
    · rw [if_pos c2]
      have hv := c2.2
      rcases (show w = 0 ∨ w = 1 ∨ w = 2 by omega) with rfl | rfl | rfl
      · have hv : 0 ≤ t1.2.2.2 ∧ t1.2.2.2 ≤ 9999 := hv
        exact zTOK_set (by omega) (fun h => by omega) (fun h => by omega) (fun h => by omega) (fun e' he' => ⟨fun h => by omega, fun h => by omega⟩) (fun p hp => ⟨fun h => by omega, fun h => by omega, fun h => by omega, fun h => by omega⟩) (fun s hs h => by omega) ho
      · have hv : 1 ≤ t1.2.2.2 ∧ t1.2.2.2 ≤ 99 := hv
        exact zTOK_set (by omega) (fun h => by omega) (fun h => by omega) (fun h => by omega) (fun e' he' => ⟨fun h => by omega, fun h => by omega⟩) (fun p hp => ⟨fun h => by omega, fun h => by omega, fun h => by omega, fun h => by omega⟩) (fun s hs h => by omega) ho
      · have hv : 1 ≤ t1.2.2.2 ∧ t1.2.2.2 ≤ 9 := hv
        exact zTOK_set (by omega) (fun h => by omega) (fun h => by omega) (fun h => by omega) (fun e' he' => ⟨fun h => by omega, fun h => by omega⟩) (fun p hp => ⟨fun h => by omega, fun h => by omega, fun h => by omega, fun h => by omega⟩) (fun s hs h => by omega) ho
    · rw [if_neg c2]; exact ho
  · rw [if_neg c1]; exact ho
theorem zrdl_ok {X : zX} {B : Nat → Int} {n nn e : Nat} (he : e < 4) : ∀ (m w : Nat) (t : zTo) (T : zTb), w + m = 3 → zTOK nn T → zTOK nn (zrdl X B n e m w t T).2.2 := by
  intro m
  induction m with
  | zero => intro w t T _ ho; exact ho
  | succ m ih =>
    intro w t T hw ho
    unfold zrdl
    split
    · exact ih _ _ _ (by omega) (zrdo_ok he (by omega) ho)
    · exact zrdo_ok he (by omega) ho
theorem zrdq_ok {X : zX} {B : Nat → Int} {n nn : Nat} {T : zTb} {t : zTo} (ho : zTOK nn T) : zTOK nn (zrdq X B n T t).2.2 := by
  unfold zrdq
  by_cases c1 : zNm (znx1 B n t) 0 3
  · rw [if_pos c1]
    exact zrdl_ok (by have := c1.2; omega) 3 0 _ _ (by omega) ho
  · rw [if_neg c1]; exact ho
theorem zrdi_ok {X : zX} {B : Nat → Int} {n nn : Nat} {T : zTb} {t : zTo} (ho : zTOK nn T) : zTOK nn (zrdi X B n T t).2.2 := by
  have hk := zkd_in (X := X) (B := B) (t := t) 7 0 (by omega)
  unfold zrdi
  by_cases c0 : zkd X B t 7 0 < 0
  · rw [if_pos c0]
    by_cases c1 : zWd X B t 11
    · rw [if_pos c1]; exact zrda_ok ho
    · rw [if_neg c1]
      by_cases c2 : zWd X B t 13
      · rw [if_pos c2]; exact zrde_ok ho
      · rw [if_neg c2]
        by_cases c3 : zWd X B t 15
        · rw [if_pos c3]; exact zrdq_ok ho
        · rw [if_neg c3]; exact ho
  · rw [if_neg c0]
    exact zrdp_ok (by omega) ho
