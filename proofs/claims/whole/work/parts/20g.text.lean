/-! TEXT: the class's items: which one. -/
def zkd (X : zX) (B : Nat → Int) (t : zTo) : Nat → Nat → Int
  | 0, _ => -1
  | m + 1, i => if zWd X B t (4 + i) then (i : Int) else zkd X B t m (i + 1)
theorem zkd_in {X : zX} {B : Nat → Int} {t : zTo} : ∀ (m i : Nat), i + m = 7 → -1 ≤ zkd X B t m i ∧ zkd X B t m i ≤ 6 := by
  intro m
  induction m with
  | zero => intro i _; exact ⟨show (-1 : Int) ≤ -1 by decide, show (-1 : Int) ≤ 6 by decide⟩
  | succ m ih =>
    intro i hi
    unfold zkd
    split
    · omega
    · exact ih (i + 1) (by omega)
def zrdi (X : zX) (B : Nat → Int) (n : Nat) (T : zTb) (t : zTo) : Int × (zTo × zTb) :=
  if zkd X B t 7 0 < 0 then
    (if zWd X B t 11 then zrda X B n T t else (if zWd X B t 13 then zrde X B n T t else (if zWd X B t 15 then zrdq X B n T t else (0, (t, T)))))
    else zrdp B n T t (zkd X B t 7 0)
theorem zrdp_1 {B : Nat → Int} {n : Nat} {T : zTb} {t : zTo} {k : Int} : (zrdp B n T t k).1 = 0 ∨ (zrdp B n T t k).1 = 1 := by
  unfold zrdp
  repeat' split
  all_goals first | exact Or.inl rfl | exact Or.inr rfl
theorem zrda_1 {X : zX} {B : Nat → Int} {n : Nat} {T : zTb} {t : zTo} : (zrda X B n T t).1 = 0 ∨ (zrda X B n T t).1 = 1 := by
  unfold zrda
  repeat' split
  all_goals first | exact Or.inl rfl | exact Or.inr rfl
theorem zrde_1 {X : zX} {B : Nat → Int} {n : Nat} {T : zTb} {t : zTo} : (zrde X B n T t).1 = 0 ∨ (zrde X B n T t).1 = 1 := by
  unfold zrde
  repeat' split
  all_goals first | exact Or.inl rfl | exact Or.inr rfl
theorem zrdo_1 {X : zX} {B : Nat → Int} {n e w : Nat} {T : zTb} {t : zTo} : (zrdo X B n e w t T).1 = 0 ∨ (zrdo X B n e w t T).1 = 1 := by
  unfold zrdo
  repeat' split
  all_goals first | exact Or.inl rfl | exact Or.inr rfl
theorem zrdl_1 {X : zX} {B : Nat → Int} {n e : Nat} : ∀ (m w : Nat) (t : zTo) (T : zTb), (zrdl X B n e m w t T).1 = 0 ∨ (zrdl X B n e m w t T).1 = 1 := by
  intro m
  induction m with
  | zero => intro w t T; exact Or.inr rfl
  | succ m ih =>
    intro w t T
    unfold zrdl
    split
    · exact ih _ _ _
    · exact zrdo_1
theorem zrdq_1 {X : zX} {B : Nat → Int} {n : Nat} {T : zTb} {t : zTo} : (zrdq X B n T t).1 = 0 ∨ (zrdq X B n T t).1 = 1 := by
  unfold zrdq
  split
  · exact zrdl_1 _ _ _ _
  · exact Or.inl rfl
section
variable {X : zX} {C : zC} {d n nn : Nat} {L : zLt} {T : zTb} {I : Nat → Nat → Int} {B : Nat → Int} {t : zTo}
theorem zs_kd (hL : zLay L) (hX : zWX X) (hB : zBy B n) (h : zRdr I B n t T) : ∀ (m i : Nat), i + m = 7 → zgo X (zcal X zP (d + 1)) zc_Tape_kindNamed 2 [some (.inr (.inr (.inl 123))), some (.inl (i : Int))] [] (I, L) = some (some (.inl (zkd X B t m i)), (I, L)) := by
  intro m
  induction m with
  | zero =>
    intro i hi
    have h7 : ((i : Int) < 7) = False := eq_false (by omega)
    refine zb_Tape_kindNamed_2.trans ?_
    simp only [if_true, if_false, Option.bind_some, Option.bind, Option.toList, List.cons_append, List.nil_append, zite0, zite1, zite01, znn, ite_not, true_or, or_true, true_and, and_true, zn10, zn00, h7]
    try rfl
  | succ m ih =>
    intro i hi
    have him : i < 1000000 := by omega
    have h7 : ((i : Int) < 7) = True := eq_true (by omega)
    have hnm : ∀ σ : zMem, zcal X zP (d + 1) 59 [.inl (i : Int)] σ = some (some (.inr (.inr (.inr (4 + i)))), σ) := by
      intro σ
      refine ((zcal_go zp_Tape_nameOfKind rfl).trans zb_Tape_nameOfKind_0).trans ?_
      rcases (show i = 0 ∨ i = 1 ∨ i = 2 ∨ i = 3 ∨ i = 4 ∨ i = 5 ∨ i = 6 by omega) with rfl | rfl | rfl | rfl | rfl | rfl | rfl
      · exact zb_Tape_nameOfKind_1_0
      · exact zb_Tape_nameOfKind_1_1
      · exact zb_Tape_nameOfKind_1_2
      · exact zb_Tape_nameOfKind_1_3
      · exact zb_Tape_nameOfKind_1_4
      · exact zb_Tape_nameOfKind_1_5
      · refine (zb_Tape_nameOfKind_1_d ?_).trans zb_Tape_nameOfKind_58
        decide
    have hwd := zRdr_word (X := X) (d := d) hL hX hB h (x := 4 + i) (by omega) (by omega)
    by_cases c : zWd X B t (4 + i)
    · rw [if_pos c] at hwd
      have e : zkd X B t (m + 1) i = (i : Int) := if_pos c
      rw [e]
      refine zb_Tape_kindNamed_2.trans ?_
      simp only [if_true, if_false, Option.bind_some, Option.bind, Option.toList, List.cons_append, List.nil_append, zite0, zite1, zite01, znn, ite_not, true_or, or_true, true_and, and_true, zn10, zn00, h7, hnm, zb_Tape_kindNamed_13, zk_123 hL, hwd, zb_Tape_kindNamed_16]
    · rw [if_neg c] at hwd
      have e : zkd X B t (m + 1) i = zkd X B t m (i + 1) := if_neg c
      rw [e]
      have hq := ih (i + 1) (by omega)
      refine zb_Tape_kindNamed_2.trans ?_
      simp only [if_true, if_false, Option.bind_some, Option.bind, Option.toList, List.cons_append, List.nil_append, zite0, zite1, zite01, znn, ite_not, true_or, or_true, true_and, and_true, zn10, zn00, h7, hnm, zb_Tape_kindNamed_13, zk_123 hL, hwd, zb_Tape_kindNamed_16, zw32n him, hq]
theorem zq_readItem (hL : zLay L) (hX : zWX X) (h23 : zX23 X) (hB : zBy B n) (ho : zTOK nn T) (h : zRdr I B n t T) : ∃ I', zcal X zP (d + 5) 57 [.inr (.inr (.inl 123)), .inr (.inr (.inl 56))] (I, L) = some (some (.inl (zrdi X B n T t).1), (I', L)) ∧ zRdr I' B n (zrdi X B n T t).2.1 (zrdi X B n T t).2.2 ∧ zRFr I I' := by
  have hk0 := zs_kd (X := X) (d := d + 2) hL hX hB h 7 0 (by omega)
  have hk : zcal X zP (d + 4) 58 [.inr (.inr (.inl 123))] (I, L) = some (some (.inl (zkd X B t 7 0)), (I, L)) := by
    refine ((zcal_go zp_Tape_kindNamed rfl).trans zb_Tape_kindNamed_0).trans ?_
    exact hk0
  have w11 := zRdr_word (X := X) (d := d + 3) hL hX hB h (x := 11) (by omega) (by omega)
  have w13 := zRdr_word (X := X) (d := d + 3) hL hX hB h (x := 13) (by omega) (by omega)
  have w15 := zRdr_word (X := X) (d := d + 3) hL hX hB h (x := 15) (by omega) (by omega)
  unfold zrdi
  by_cases c0 : zkd X B t 7 0 < 0
  · rw [if_pos c0]
    by_cases c1 : zWd X B t 11
    · rw [if_pos c1] at w11 ⊢
      obtain ⟨I', a1, a2, a3⟩ := zq_readPea (X := X) (d := d) hL hX hB ho h
      have h01 := eq_true (zrda_1 (X := X) (B := B) (n := n) (T := T) (t := t))
      refine ⟨I', ?_, a2, a3⟩
      refine ((zcal_go zp_Tape_readItem rfl).trans zb_Tape_readItem_0).trans ?_
      simp only [if_true, if_false, Option.bind_some, Option.bind, Option.toList, List.cons_append, List.nil_append, zite0, zite1, zite01, znn, ite_not, true_or, or_true, true_and, and_true, zn10, zn00, zk_123 hL, hk, zb_Tape_readItem_4, eq_true c0, w11, zb_Tape_readItem_22, a1, zb_Tape_readItem_30, h01]
    · rw [if_neg c1] at w11 ⊢
      by_cases c2 : zWd X B t 13
      · rw [if_pos c2] at w13 ⊢
        obtain ⟨I', a1, a2, a3⟩ := zq_readEye (X := X) (d := d) hL hX hB ho h
        have h01 := eq_true (zrde_1 (X := X) (B := B) (n := n) (T := T) (t := t))
        refine ⟨I', ?_, a2, a3⟩
        refine ((zcal_go zp_Tape_readItem rfl).trans zb_Tape_readItem_0).trans ?_
        simp only [if_true, if_false, Option.bind_some, Option.bind, Option.toList, List.cons_append, List.nil_append, zite0, zite1, zite01, znn, ite_not, true_or, or_true, true_and, and_true, zn10, zn00, zk_123 hL, hk, zb_Tape_readItem_4, eq_true c0, w11, zb_Tape_readItem_22, w13, zb_Tape_readItem_37, a1, zb_Tape_readItem_45, h01]
      · rw [if_neg c2] at w13 ⊢
        by_cases c3 : zWd X B t 15
        · rw [if_pos c3] at w15 ⊢
          obtain ⟨I', a1, a2, a3⟩ := zq_readPlayer (X := X) (d := d) hL hX h23 hB ho.2.2.2.2.1 h
          refine ⟨I', ?_, a2, a3⟩
          refine ((zcal_go zp_Tape_readItem rfl).trans zb_Tape_readItem_0).trans ?_
          simp only [if_true, if_false, Option.bind_some, Option.bind, Option.toList, List.cons_append, List.nil_append, zite0, zite1, zite01, znn, ite_not, true_or, or_true, true_and, and_true, zn10, zn00, zk_123 hL, hk, zb_Tape_readItem_4, eq_true c0, w11, zb_Tape_readItem_22, w13, zb_Tape_readItem_37, w15, zb_Tape_readItem_52, a1, zb_Tape_readItem_60]
          rcases zrdq_1 (X := X) (B := B) (n := n) (T := T) (t := t) with e | e
          · rw [e]; rfl
          · rw [e]; rfl
        · rw [if_neg c3] at w15 ⊢
          refine ⟨I, ?_, h, fun _ _ _ => rfl⟩
          refine ((zcal_go zp_Tape_readItem rfl).trans zb_Tape_readItem_0).trans ?_
          simp only [if_true, if_false, Option.bind_some, Option.bind, Option.toList, List.cons_append, List.nil_append, zite0, zite1, zite01, znn, ite_not, true_or, or_true, true_and, and_true, zn10, zn00, zk_123 hL, hk, zb_Tape_readItem_4, eq_true c0, w11, zb_Tape_readItem_22, w13, zb_Tape_readItem_37, w15, zb_Tape_readItem_52]
  · rw [if_neg c0]
    obtain ⟨I', a1, a2, a3⟩ := zq_readPass (X := X) (d := d) hL hB ho h (k := zkd X B t 7 0)
    have h01 := eq_true (zrdp_1 (B := B) (n := n) (T := T) (t := t) (k := zkd X B t 7 0))
    refine ⟨I', ?_, a2, a3⟩
    refine ((zcal_go zp_Tape_readItem rfl).trans zb_Tape_readItem_0).trans ?_
    simp only [if_true, if_false, Option.bind_some, Option.bind, Option.toList, List.cons_append, List.nil_append, zite0, zite1, zite01, znn, ite_not, true_or, or_true, true_and, and_true, zn10, zn00, zk_123 hL, hk, zb_Tape_readItem_4, eq_false c0, a1, zb_Tape_readItem_15, h01]
end
