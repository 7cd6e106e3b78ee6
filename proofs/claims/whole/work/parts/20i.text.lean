/-! TEXT: the class reads all items. -/
def zrdz (X : zX) (B : Nat → Int) (n : Nat) : Nat → Nat → zTo → zTb → Int × zTb
  | 0, _, t, T => (-1 - (t.2.1 : Int), T)
  | m + 1, i, t, T => if (zrdi X B n T t).1 = 0 then (-1 - ((zrdi X B n T t).2.1.2.1 : Int), (zrdi X B n T t).2.2) else
      (if (zrdi X B n T t).2.1.1 = 0 then ((i : Int), (zrdi X B n T t).2.2) else
        (if (zrdi X B n T t).2.1.1 = 3 then zrdz X B n m (i + 1) (znx1 B n (zrdi X B n T t).2.1) (zrdi X B n T t).2.2 else (-1 - ((zrdi X B n T t).2.1.2.1 : Int), (zrdi X B n T t).2.2)))
section
variable {X : zX} {C : zC} {d n nn : Nat} {L : zLt} {B : Nat → Int}
theorem zs_on (hL : zLay L) (hX : zWX X) (h23 : zX23 X) (hB : zBy B n) : ∀ (m i : Nat) (t : zTo) (T : zTb) (I : Nat → Nat → Int), i + m = 121 → zTOK nn T → zRdr I B n t T → ∃ I', zgo X (zcal X zP (d + 5)) zc_Tape_readOnto 11 [some (.inr (.inr (.inl 123))), some (.inr (.inr (.inl 56))), some (.inl (i : Int))] [] (I, L) = some (some (.inl (zrdz X B n m i t T).1), (I', L)) ∧ zTC I' 56 (zrdz X B n m i t T).2 ∧ zTOK nn (zrdz X B n m i t T).2 ∧ zRFr I I' := by
  have h120 := hB.1
  have hwf : ∀ s : Nat, s ≤ 120 → w32 (-1 - (s : Int)) = -1 - (s : Int) := fun s hs => zw32 (by omega) (by omega)
  intro m
  induction m with
  | zero =>
    intro i t T I hi ho h
    have hc : (120 < (i : Int)) = True := eq_true (by omega)
    have hs := h.2.2.2.1
    refine ⟨I, ?_, h.2.2.2.2, ho, fun _ _ _ => rfl⟩
    refine zb_Tape_readOnto_11.trans ?_
    simp only [if_true, if_false, Option.bind_some, Option.bind, Option.toList, List.cons_append, List.nil_append, zite0, zite1, zite01, znn, ite_not, true_or, or_true, true_and, and_true, zn10, zn00, hc, zk_123 hL, h.2.2.1.2.1, hwf t.2.1 (by omega)]
    try rfl
  | succ m ih =>
    intro i t T I hi ho h
    have him : i < 1000000 := by omega
    have hc : (120 < (i : Int)) = False := eq_false (by omega)
    obtain ⟨I1, a1, a2, a3⟩ := zq_readItem (X := X) (d := d) hL hX h23 hB ho h
    have ok1 := zrdi_ok (X := X) (B := B) (n := n) (t := t) ho
    have e : zrdz X B n (m + 1) i t T = if (zrdi X B n T t).1 = 0 then (-1 - ((zrdi X B n T t).2.1.2.1 : Int), (zrdi X B n T t).2.2) else (if (zrdi X B n T t).2.1.1 = 0 then ((i : Int), (zrdi X B n T t).2.2) else (if (zrdi X B n T t).2.1.1 = 3 then zrdz X B n m (i + 1) (znx1 B n (zrdi X B n T t).2.1) (zrdi X B n T t).2.2 else (-1 - ((zrdi X B n T t).2.1.2.1 : Int), (zrdi X B n T t).2.2))) := rfl
    rw [e]
    generalize zrdi X B n T t = r at *
    obtain ⟨r1, t1, T1⟩ := r
    have hs := a2.2.2.2.1
    have s2 : I1 123 2 = t1.1 := a2.2.2.1.1
    have s3 : I1 123 3 = (t1.2.1 : Int) := a2.2.2.1.2.1
    have hw1 := hwf t1.2.1 (by have : t1.2.1 ≤ t1.2.2.1 ∧ t1.2.2.1 ≤ n := hs; omega)
    by_cases c1 : r1 = 0
    · rw [if_pos c1]
      refine ⟨I1, ?_, a2.2.2.2.2, ok1, a3⟩
      refine zb_Tape_readOnto_11.trans ?_
      simp only [if_true, if_false, Option.bind_some, Option.bind, Option.toList, List.cons_append, List.nil_append, zite0, zite1, zite01, znn, ite_not, true_or, or_true, true_and, and_true, zn10, zn00, hc, zk_123 hL, a1, zb_Tape_readOnto_22, eq_true c1, s3, hw1]
    · rw [if_neg c1]
      by_cases c2 : t1.1 = 0
      · rw [if_pos c2]
        refine ⟨I1, ?_, a2.2.2.2.2, ok1, a3⟩
        refine zb_Tape_readOnto_11.trans ?_
        simp only [if_true, if_false, Option.bind_some, Option.bind, Option.toList, List.cons_append, List.nil_append, zite0, zite1, zite01, znn, ite_not, true_or, or_true, true_and, and_true, zn10, zn00, hc, zk_123 hL, a1, zb_Tape_readOnto_22, eq_false c1, s2, eq_true c2]
      · rw [if_neg c2]
        by_cases c3 : t1.1 = 3
        · rw [if_pos c3]
          obtain ⟨I2, b1, b2, b3⟩ := zRdr_next (X := X) (d := d + 3) hL hB ok1.2.2.2.2.1 a2
          obtain ⟨I3, d1, d2, d3, d4⟩ := ih (i + 1) (znx1 B n t1) T1 I2 (by omega) ok1 b2
          refine ⟨I3, ?_, d2, d3, zRFr_t a3 (zRFr_t b3 d4)⟩
          refine zb_Tape_readOnto_11.trans ?_
          simp only [if_true, if_false, Option.bind_some, Option.bind, Option.toList, List.cons_append, List.nil_append, zite0, zite1, zite01, znn, ite_not, true_or, or_true, true_and, and_true, zn10, zn00, hc, zk_123 hL, a1, zb_Tape_readOnto_22, eq_false c1, s2, eq_false c2, eq_true c3, b1, zb_Tape_readOnto_52, zw32n him, d1]
        · rw [if_neg c3]
          refine ⟨I1, ?_, a2.2.2.2.2, ok1, a3⟩
          refine zb_Tape_readOnto_11.trans ?_
          simp only [if_true, if_false, Option.bind_some, Option.bind, Option.toList, List.cons_append, List.nil_append, zite0, zite1, zite01, znn, ite_not, true_or, or_true, true_and, and_true, zn10, zn00, hc, zk_123 hL, a1, zb_Tape_readOnto_22, eq_false c1, s2, eq_false c2, eq_false c3, s3, hw1]
end
