/-! CONTRACTS OF CALLS, closed: pass. -/
/-- a pass more -/
def zTadd (T : zTb) (k a b : Int) : zTb := (T.1, (T.2.1 + 1, fun j => if j = T.2.1 then (k, (a, b)) else T.2.2 j))
def zIadd (I : Nat → Nat → Int) (t n : Nat) (k a b : Int) : Nat → Nat → Int := zwI (zwI (zwI (zwI I (t + 5 + n) 0 k) (t + 5 + n) 1 a) (t + 5 + n) 2 b) t 2 ((n + 1 : Nat) : Int)
def zJadd (I : Nat → Nat → Int) (n : Nat) (k a b : Int) : Nat → Nat → Int := zwI (zwI (zwI (zwI I 136 (5 + 3 * n) k) 136 (6 + 3 * n) a) 136 (7 + 3 * n) b) 136 1 ((n + 1 : Nat) : Int)
theorem zIadd_row {I : Nat → Nat → Int} {t n c : Nat} {k a b : Int} (h1 : c ≠ t) (h2 : c ≠ t + 5 + n) : zIadd I t n k a b c = I c := by
  unfold zIadd
  rw [zwI_row h1, zwI_row h2, zwI_row h2, zwI_row h2]
theorem zTC_add {I : Nat → Nat → Int} {t : Nat} {k a b : Int} {T : zTb} (h14 : T.2.1 < 14) (h : zTC I t T) : zTC (zIadd I t T.2.1 k a b) t (zTadd T k a b) := by
  obtain ⟨h1, h2, h3, h4, h5, h6, h7, h8, h9⟩ := h
  have e : ∀ j, j ≠ 2 → zIadd I t T.2.1 k a b t j = I t j := by
    intro j hj
    unfold zIadd
    rw [zwI_nej hj, zwI_ne (by omega), zwI_ne (by omega), zwI_ne (by omega)]
  refine ⟨(e 0 (by omega)).trans h1, (e 1 (by omega)).trans h2, zwI_eq, (e 3 (by omega)).trans h4, (e 4 (by omega)).trans h5, fun i hi => ?_, fun q hq => ?_, fun p q hp hq => ?_, fun s hs => ?_⟩
  · have hi : i < T.2.1 + 1 := hi
    show _ = (if i = T.2.1 then (k, (a, b)) else T.2.2 i).1 ∧ _ = (if i = T.2.1 then (k, (a, b)) else T.2.2 i).2.1 ∧ _ = (if i = T.2.1 then (k, (a, b)) else T.2.2 i).2.2
    by_cases e : i = T.2.1
    · rw [if_pos e, e]
      unfold zIadd
      refine ⟨?_, ?_, ?_⟩
      · rw [zwI_ne (by omega), zwI_nej (by omega), zwI_nej (by omega), zwI_eq]
      · rw [zwI_ne (by omega), zwI_nej (by omega), zwI_eq]
      · rw [zwI_ne (by omega), zwI_eq]
    · rw [if_neg e, zIadd_row (by omega) (by omega)]; exact h6 i (by omega)
  · rw [zIadd_row (by omega) (by omega)]; exact h7 q hq
  · rw [zIadd_row (by omega) (by omega)]; exact h8 p q hp hq
  · rw [zIadd_row (by omega) (by omega)]; exact h9 s hs
theorem zTM_add {I : Nat → Nat → Int} {k a b : Int} {T : zTb} (h14 : T.2.1 < 14) (h : zTM I 136 T) : zTM (zJadd I T.2.1 k a b) 136 (zTadd T k a b) := by
  obtain ⟨h1, h2, h3⟩ := h
  have e : ∀ j, j ≠ 1 → j ≠ 5 + 3 * T.2.1 → j ≠ 6 + 3 * T.2.1 → j ≠ 7 + 3 * T.2.1 → zJadd I T.2.1 k a b 136 j = I 136 j := by
    intro j j1 j2 j3 j4
    unfold zJadd
    rw [zwI_nej j1, zwI_nej j4, zwI_nej j3, zwI_nej j2]
  refine ⟨fun j hj => (e j (by omega) (by omega) (by omega) (by omega)).trans (h1 j hj), zwI_eq, fun i hi => ?_⟩
  have hi : i < T.2.1 + 1 := hi
  show _ = (if i = T.2.1 then (k, (a, b)) else T.2.2 i).1 ∧ _ = (if i = T.2.1 then (k, (a, b)) else T.2.2 i).2.1 ∧ _ = (if i = T.2.1 then (k, (a, b)) else T.2.2 i).2.2
  by_cases e2 : i = T.2.1
  · rw [if_pos e2, e2]
    unfold zJadd
    refine ⟨?_, ?_, ?_⟩
    · rw [zwI_nej (by omega), zwI_nej (by omega), zwI_nej (by omega), zwI_eq]
    · rw [zwI_nej (by omega), zwI_nej (by omega), zwI_eq]
    · rw [zwI_nej (by omega), zwI_eq]
  · rw [if_neg e2, e _ (by omega) (by omega) (by omega) (by omega), e _ (by omega) (by omega) (by omega) (by omega), e _ (by omega) (by omega) (by omega) (by omega)]
    exact h3 i (by omega)
theorem zTOK_add {n : Nat} {k a b : Int} {T : zTb} (h14 : T.2.1 < 14) (hk : 0 ≤ k ∧ k ≤ 6) (ha : 0 ≤ a ∧ a ≤ T.1 0 - 1) (hb : 0 ≤ b ∧ b ≤ T.1 0 - 1) (hab : a ≠ b) (h : zTOK n T) : zTOK n (zTadd T k a b) := by
  obtain ⟨a1, a2, a3, a4, a5, a6, a7⟩ := h
  refine ⟨a1, a2, a3, a4, by show T.2.1 + 1 ≤ 14; omega, fun j hj => ?_, a7⟩
  have hj : j < T.2.1 + 1 := hj
  show (0 ≤ (if j = T.2.1 then (k, (a, b)) else T.2.2 j).1 ∧ (if j = T.2.1 then (k, (a, b)) else T.2.2 j).1 < 7) ∧ (0 ≤ (if j = T.2.1 then (k, (a, b)) else T.2.2 j).2.1 ∧ (if j = T.2.1 then (k, (a, b)) else T.2.2 j).2.1 < T.1 0) ∧ (0 ≤ (if j = T.2.1 then (k, (a, b)) else T.2.2 j).2.2 ∧ (if j = T.2.1 then (k, (a, b)) else T.2.2 j).2.2 < T.1 0) ∧ (if j = T.2.1 then (k, (a, b)) else T.2.2 j).2.1 ≠ (if j = T.2.1 then (k, (a, b)) else T.2.2 j).2.2
  by_cases e : j = T.2.1
  · rw [if_pos e]
    exact ⟨⟨hk.1, by show k < 7; omega⟩, ⟨ha.1, by show a < _; omega⟩, ⟨hb.1, by show b < _; omega⟩, hab⟩
  · rw [if_neg e]; exact a6 j (by omega)
section
variable {X : zX} {d n : Nat} {L : zLt} {S : zSt} {I : Nat → Nat → Int} {T : zTb}
theorem zq_Pass_set {σ : zMem} {p : Nat} {k a b : Int} (hp : σ.2.2.1 p = (1, (2, 0))) : zcal X zP (d + 1) 6 [.inr (.inr (.inl p)), .inl k, .inl a, .inl b] σ = some (none, zw (zw (zw σ p 0 k) p 1 a) p 2 b) := by
  refine ((zcal_go zp_Pass_set rfl).trans zb_Pass_set_0).trans ?_
  simp only [if_true, if_false, Option.bind_some, Option.bind, Option.toList, List.cons_append, List.nil_append, zite0, zite1, zite01, znn, ite_not, true_or, or_true, true_and, and_true, hp]
theorem zq_Table_add {t : Nat} {k a b : Int} (hl : zTabL L t) (hr : zTC I t T) (h14 : T.2.1 < 14) : zcal X zP (d + 2) 44 [.inr (.inr (.inl t)), .inl k, .inl a, .inl b] (I, L) = some (none, (zIadd I t T.2.1 k a b, L)) := by
  obtain ⟨l1, l2, -, -, -, l6, -, -, -, l10, -⟩ := hl
  obtain ⟨l3, l4⟩ := l10 T.2.1 h14
  have e : I t 2 = (T.2.1 : Int) := hr.2.2.1
  have hq := zq_Pass_set (X := X) (d := d) (σ := (I, L)) (p := t + 5 + T.2.1) (k := k) (a := a) (b := b) l4
  refine ((zcal_go zp_Table_add rfl).trans zb_Table_add_0).trans ?_
  simp only [if_true, if_false, Option.bind_some, Option.bind, Option.toList, List.cons_append, List.nil_append, zite0, zite1, zite01, znn, ite_not, true_or, or_true, true_and, and_true, l1, e, l2, l6, Int.toNat_natCast, l3, l4, hq, zw_I]
  rw [if_pos (by omega), if_pos (by omega), zb_Table_add_24]
  simp only [if_true, if_false, Option.bind_some, Option.bind, Option.toList, List.cons_append, List.nil_append, zite0, zite1, zite01, znn, ite_not, true_or, or_true, true_and, and_true, l1, zw_I]
  have e3 : zwI (zwI (zwI I (t + 5 + T.2.1) 0 k) (t + 5 + T.2.1) 1 a) (t + 5 + T.2.1) 2 b t 2 = (T.2.1 : Int) := by
    rw [zwI_ne (by omega), zwI_ne (by omega), zwI_ne (by omega), e]
  rw [e3, zw32n (by omega)]
  rfl
theorem zq_M_comes {k a b : Int} (hL : zLay L) (hr : zTM I 136 T) (h14 : T.2.1 < 14) : zcal X zP (d + 1) 154 [.inr (.inr (.inl 135)), .inl k, .inl a, .inl b] (I, L) = some (some (.inl (T.2.1 : Int)), (zJadd I T.2.1 k a b, L)) := by
  have e : I 136 1 = (T.2.1 : Int) := hr.2.1
  have e1 : w32 (5 + (w32 (3 * (T.2.1 : Int)))) = ((5 + 3 * T.2.1 : Nat) : Int) := by unfold w32; omega
  have e2 : w32 (((5 + 3 * T.2.1 : Nat) : Int) + 1) = ((6 + 3 * T.2.1 : Nat) : Int) := by unfold w32; omega
  have e3 : w32 (((5 + 3 * T.2.1 : Nat) : Int) + 2) = ((7 + 3 * T.2.1 : Nat) : Int) := by unfold w32; omega
  have e4 : zwI (zwI (zwI I 136 (5 + 3 * T.2.1) k) 136 (6 + 3 * T.2.1) a) 136 (7 + 3 * T.2.1) b 136 1 = (T.2.1 : Int) := by
    rw [zwI_nej (by omega), zwI_nej (by omega), zwI_nej (by omega), e]
  refine ((zcal_go zp_M_comes rfl).trans zb_M_comes_0).trans ?_
  simp only [if_true, if_false, Option.bind_some, Option.bind, Option.toList, List.cons_append, List.nil_append, zite0, zite1, zite01, znn, ite_not, true_or, or_true, true_and, and_true, zk_135 hL, zr_135_0 hL, z6_1 hL, e, e1, e2, e3, zd136 hL (show 0 ≤ ((5 + 3 * T.2.1 : Nat) : Int) ∧ ((5 + 3 * T.2.1 : Nat) : Int) < 96 by omega), zd136 hL (show 0 ≤ ((6 + 3 * T.2.1 : Nat) : Int) ∧ ((6 + 3 * T.2.1 : Nat) : Int) < 96 by omega), zd136 hL (show 0 ≤ ((7 + 3 * T.2.1 : Nat) : Int) ∧ ((7 + 3 * T.2.1 : Nat) : Int) < 96 by omega), Int.toNat_natCast, zw_I, e4, zw32n (show T.2.1 < 1000000 by omega)]
  rfl
end
