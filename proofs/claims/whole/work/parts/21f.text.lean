/-! TEXT: the reference's items: which one. -/
theorem zkd_1 {X : zX} {B : Nat → Int} {t : zTo} : ∀ (m i : Nat), 0 ≤ zkd X B t m i → t.1 = 1 := by
  intro m
  induction m with
  | zero => intro i h; exact absurd (show (0 : Int) ≤ -1 from h) (by decide)
  | succ m ih =>
    intro i h
    unfold zkd at h
    split at h
    · rename_i c
      exact c.1
    · exact ih (i + 1) h
section
variable {X : zX} {C : zC} {d n nn : Nat} {L : zLt} {T : zTb} {I : Nat → Nat → Int} {B : Nat → Int} {t : zTo}
theorem zq_kindHere (hL : zLay L) (hC : zXC X) (h : zMd I B n t T) : zcal X zP (d + 2) 220 [.inr (.inr (.inl 135))] (I, L) = some (some (.inl (zkd X B t 7 0)), (I, L)) := by
  have e10 : ((1 : Int) = 0) = False := eq_false (by decide)
  have e00 : ((0 : Int) = 0) = True := eq_true rfl
  have hk : zkd X B t 7 0 = if zWd X B t 4 then 0 else if zWd X B t 5 then 1 else if zWd X B t 6 then 2 else if zWd X B t 7 then 3 else if zWd X B t 8 then 4 else if zWd X B t 9 then 5 else if zWd X B t 10 then 6 else -1 := rfl
  rw [hk]
  have w0 : zcal X zP (d + 1) 219 [.inr (.inr (.inl 135)), .inr (.inl 316189)] (I, L) = _ := zMd_word (X := X) (d := d) hL hC h (x := 4) (by omega) (by omega)
  have w1 : zcal X zP (d + 1) 219 [.inr (.inr (.inl 135)), .inr (.inl 3294020)] (I, L) = _ := zMd_word (X := X) (d := d) hL hC h (x := 5) (by omega) (by omega)
  have w2 : zcal X zP (d + 1) 219 [.inr (.inr (.inl 135)), .inr (.inl 242939)] (I, L) = _ := zMd_word (X := X) (d := d) hL hC h (x := 6) (by omega) (by omega)
  have w3 : zcal X zP (d + 1) 219 [.inr (.inr (.inl 135)), .inr (.inl 92275)] (I, L) = _ := zMd_word (X := X) (d := d) hL hC h (x := 7) (by omega) (by omega)
  have w4 : zcal X zP (d + 1) 219 [.inr (.inr (.inl 135)), .inr (.inl 12387666)] (I, L) = _ := zMd_word (X := X) (d := d) hL hC h (x := 8) (by omega) (by omega)
  have w5 : zcal X zP (d + 1) 219 [.inr (.inr (.inl 135)), .inr (.inl 383153)] (I, L) = _ := zMd_word (X := X) (d := d) hL hC h (x := 9) (by omega) (by omega)
  have w6 : zcal X zP (d + 1) 219 [.inr (.inr (.inl 135)), .inr (.inl 9454493)] (I, L) = _ := zMd_word (X := X) (d := d) hL hC h (x := 10) (by omega) (by omega)
  by_cases c0 : zWd X B t 4
  · rw [if_pos c0] at w0 ⊢
    refine ((zcal_go zp_M_kindHere rfl).trans zb_M_kindHere_0).trans ?_
    simp only [if_true, if_false, Option.bind_some, Option.bind, Option.toList, List.cons_append, List.nil_append, zite0, zite1, zite01, znn, ite_not, true_or, or_true, true_and, and_true, zn10, zn00, zk_135 hL, zr_135_0 hL, z6_0 hL, z6_1 hL, z6_2 hL, z6_3 hL, z6_4 hL, w0, zb_M_kindHere_7, e10, e00]
  · rw [if_neg c0] at w0 ⊢
    by_cases c1 : zWd X B t 5
    · rw [if_pos c1] at w1 ⊢
      refine ((zcal_go zp_M_kindHere rfl).trans zb_M_kindHere_0).trans ?_
      simp only [if_true, if_false, Option.bind_some, Option.bind, Option.toList, List.cons_append, List.nil_append, zite0, zite1, zite01, znn, ite_not, true_or, or_true, true_and, and_true, zn10, zn00, zk_135 hL, zr_135_0 hL, z6_0 hL, z6_1 hL, z6_2 hL, z6_3 hL, z6_4 hL, w0, zb_M_kindHere_7, w1, zb_M_kindHere_21, e10, e00]
    · rw [if_neg c1] at w1 ⊢
      by_cases c2 : zWd X B t 6
      · rw [if_pos c2] at w2 ⊢
        refine ((zcal_go zp_M_kindHere rfl).trans zb_M_kindHere_0).trans ?_
        simp only [if_true, if_false, Option.bind_some, Option.bind, Option.toList, List.cons_append, List.nil_append, zite0, zite1, zite01, znn, ite_not, true_or, or_true, true_and, and_true, zn10, zn00, zk_135 hL, zr_135_0 hL, z6_0 hL, z6_1 hL, z6_2 hL, z6_3 hL, z6_4 hL, w0, zb_M_kindHere_7, w1, zb_M_kindHere_21, w2, zb_M_kindHere_35, e10, e00]
      · rw [if_neg c2] at w2 ⊢
        by_cases c3 : zWd X B t 7
        · rw [if_pos c3] at w3 ⊢
          refine ((zcal_go zp_M_kindHere rfl).trans zb_M_kindHere_0).trans ?_
          simp only [if_true, if_false, Option.bind_some, Option.bind, Option.toList, List.cons_append, List.nil_append, zite0, zite1, zite01, znn, ite_not, true_or, or_true, true_and, and_true, zn10, zn00, zk_135 hL, zr_135_0 hL, z6_0 hL, z6_1 hL, z6_2 hL, z6_3 hL, z6_4 hL, w0, zb_M_kindHere_7, w1, zb_M_kindHere_21, w2, zb_M_kindHere_35, w3, zb_M_kindHere_49, e10, e00]
        · rw [if_neg c3] at w3 ⊢
          by_cases c4 : zWd X B t 8
          · rw [if_pos c4] at w4 ⊢
            refine ((zcal_go zp_M_kindHere rfl).trans zb_M_kindHere_0).trans ?_
            simp only [if_true, if_false, Option.bind_some, Option.bind, Option.toList, List.cons_append, List.nil_append, zite0, zite1, zite01, znn, ite_not, true_or, or_true, true_and, and_true, zn10, zn00, zk_135 hL, zr_135_0 hL, z6_0 hL, z6_1 hL, z6_2 hL, z6_3 hL, z6_4 hL, w0, zb_M_kindHere_7, w1, zb_M_kindHere_21, w2, zb_M_kindHere_35, w3, zb_M_kindHere_49, w4, zb_M_kindHere_63, e10, e00]
          · rw [if_neg c4] at w4 ⊢
            by_cases c5 : zWd X B t 9
            · rw [if_pos c5] at w5 ⊢
              refine ((zcal_go zp_M_kindHere rfl).trans zb_M_kindHere_0).trans ?_
              simp only [if_true, if_false, Option.bind_some, Option.bind, Option.toList, List.cons_append, List.nil_append, zite0, zite1, zite01, znn, ite_not, true_or, or_true, true_and, and_true, zn10, zn00, zk_135 hL, zr_135_0 hL, z6_0 hL, z6_1 hL, z6_2 hL, z6_3 hL, z6_4 hL, w0, zb_M_kindHere_7, w1, zb_M_kindHere_21, w2, zb_M_kindHere_35, w3, zb_M_kindHere_49, w4, zb_M_kindHere_63, w5, zb_M_kindHere_77, e10, e00]
            · rw [if_neg c5] at w5 ⊢
              by_cases c6 : zWd X B t 10
              · rw [if_pos c6] at w6 ⊢
                refine ((zcal_go zp_M_kindHere rfl).trans zb_M_kindHere_0).trans ?_
                simp only [if_true, if_false, Option.bind_some, Option.bind, Option.toList, List.cons_append, List.nil_append, zite0, zite1, zite01, znn, ite_not, true_or, or_true, true_and, and_true, zn10, zn00, zk_135 hL, zr_135_0 hL, z6_0 hL, z6_1 hL, z6_2 hL, z6_3 hL, z6_4 hL, w0, zb_M_kindHere_7, w1, zb_M_kindHere_21, w2, zb_M_kindHere_35, w3, zb_M_kindHere_49, w4, zb_M_kindHere_63, w5, zb_M_kindHere_77, w6, zb_M_kindHere_91, e10, e00]
              · rw [if_neg c6] at w6 ⊢
                refine ((zcal_go zp_M_kindHere rfl).trans zb_M_kindHere_0).trans ?_
                simp only [if_true, if_false, Option.bind_some, Option.bind, Option.toList, List.cons_append, List.nil_append, zite0, zite1, zite01, znn, ite_not, true_or, or_true, true_and, and_true, zn10, zn00, zk_135 hL, zr_135_0 hL, z6_0 hL, z6_1 hL, z6_2 hL, z6_3 hL, z6_4 hL, w0, zb_M_kindHere_7, w1, zb_M_kindHere_21, w2, zb_M_kindHere_35, w3, zb_M_kindHere_49, w4, zb_M_kindHere_63, w5, zb_M_kindHere_77, w6, zb_M_kindHere_91, e10, e00]
theorem zq_M_item (hL : zLay L) (hC : zXC X) (hB : zBy B n) (ho : zTOK nn T) (h : zMd I B n t T) : ∃ I', zcal X zP (d + 5) 226 [.inr (.inr (.inl 135))] (I, L) = some (none, (I', L)) ∧ zMo I' B n (zrdi X B n T t) ∧ zMFr I I' := by
  have e10 : ((1 : Int) = 0) = False := eq_false (by decide)
  have e00 : ((0 : Int) = 0) = True := eq_true rfl
  have hk := zq_kindHere (X := X) (d := d + 2) hL hC h
  have w11 : zcal X zP (d + 4) 219 [.inr (.inr (.inl 135)), .inr (.inl 11800)] (I, L) = _ := zMd_word (X := X) (d := d + 3) hL hC h (x := 11) (by omega) (by omega)
  have w13 : zcal X zP (d + 4) 219 [.inr (.inr (.inl 135)), .inr (.inl 4325)] (I, L) = _ := zMd_word (X := X) (d := d + 3) hL hC h (x := 13) (by omega) (by omega)
  have w15 : zcal X zP (d + 4) 219 [.inr (.inr (.inl 135)), .inr (.inl 235997865)] (I, L) = _ := zMd_word (X := X) (d := d + 3) hL hC h (x := 15) (by omega) (by omega)
  unfold zrdi
  by_cases c0 : zkd X B t 7 0 < 0
  · rw [if_pos c0]
    by_cases c1 : zWd X B t 11
    · rw [if_pos c1] at w11 ⊢
      have k1 : t.1 = 1 := c1.1
      obtain ⟨I', a1, a2, a3⟩ := zq_peaHere (X := X) (d := d) hL hC hB ho h (by omega)
      refine ⟨I', ?_, a2, a3⟩
      refine ((zcal_go zp_M_item rfl).trans zb_M_item_0).trans ?_
      simp only [if_true, if_false, Option.bind_some, Option.bind, Option.toList, List.cons_append, List.nil_append, zite0, zite1, zite01, znn, ite_not, true_or, or_true, true_and, and_true, zn10, zn00, zk_135 hL, zr_135_0 hL, z6_0 hL, z6_1 hL, z6_2 hL, z6_3 hL, z6_4 hL, hk, zb_M_item_4, eq_true c0, w11, zb_M_item_24, e10, a1, zb_M_item_31, zb_M_item_72]
    · rw [if_neg c1] at w11 ⊢
      by_cases c2 : zWd X B t 13
      · rw [if_pos c2] at w13 ⊢
        have k1 : t.1 = 1 := c2.1
        obtain ⟨I', a1, a2, a3⟩ := zq_eyeHere (X := X) (d := d) hL hC hB ho h (by omega)
        refine ⟨I', ?_, a2, a3⟩
        refine ((zcal_go zp_M_item rfl).trans zb_M_item_0).trans ?_
        simp only [if_true, if_false, Option.bind_some, Option.bind, Option.toList, List.cons_append, List.nil_append, zite0, zite1, zite01, znn, ite_not, true_or, or_true, true_and, and_true, zn10, zn00, zk_135 hL, zr_135_0 hL, z6_0 hL, z6_1 hL, z6_2 hL, z6_3 hL, z6_4 hL, hk, zb_M_item_4, eq_true c0, w11, zb_M_item_24, e00, w13, zb_M_item_41, e10, a1, zb_M_item_48, zb_M_item_72]
      · rw [if_neg c2] at w13 ⊢
        by_cases c3 : zWd X B t 15
        · rw [if_pos c3] at w15 ⊢
          have k1 : t.1 = 1 := c3.1
          obtain ⟨I', a1, a2, a3⟩ := zq_playerHere (X := X) (d := d) hL hC hB ho.2.2.2.2.1 h (by omega)
          refine ⟨I', ?_, a2, a3⟩
          refine ((zcal_go zp_M_item rfl).trans zb_M_item_0).trans ?_
          simp only [if_true, if_false, Option.bind_some, Option.bind, Option.toList, List.cons_append, List.nil_append, zite0, zite1, zite01, znn, ite_not, true_or, or_true, true_and, and_true, zn10, zn00, zk_135 hL, zr_135_0 hL, z6_0 hL, z6_1 hL, z6_2 hL, z6_3 hL, z6_4 hL, hk, zb_M_item_4, eq_true c0, w11, zb_M_item_24, e00, w13, zb_M_item_41, w15, zb_M_item_58, e10, a1, zb_M_item_65, zb_M_item_72]
        · rw [if_neg c3] at w15 ⊢
          have hwr := zMd_wrong (X := X) (d := d + 3) hL h
          refine ⟨_, ?_, Or.inr ⟨rfl, zwI_eq⟩, zMFr_26⟩
          refine ((zcal_go zp_M_item rfl).trans zb_M_item_0).trans ?_
          simp only [if_true, if_false, Option.bind_some, Option.bind, Option.toList, List.cons_append, List.nil_append, zite0, zite1, zite01, znn, ite_not, true_or, or_true, true_and, and_true, zn10, zn00, zk_135 hL, zr_135_0 hL, z6_0 hL, z6_1 hL, z6_2 hL, z6_3 hL, z6_4 hL, hk, zb_M_item_4, eq_true c0, w11, zb_M_item_24, e00, w13, zb_M_item_41, w15, zb_M_item_58, hwr, zb_M_item_72]
  · rw [if_neg c0]
    have k1 := zkd_1 (X := X) (B := B) (t := t) 7 0 (by omega)
    obtain ⟨I', a1, a2, a3⟩ := zq_passHere (X := X) (d := d) hL hB ho h (by omega) (k := zkd X B t 7 0)
    refine ⟨I', ?_, a2, a3⟩
    refine ((zcal_go zp_M_item rfl).trans zb_M_item_0).trans ?_
    simp only [if_true, if_false, Option.bind_some, Option.bind, Option.toList, List.cons_append, List.nil_append, zite0, zite1, zite01, znn, ite_not, true_or, or_true, true_and, and_true, zn10, zn00, zk_135 hL, zr_135_0 hL, z6_0 hL, z6_1 hL, z6_2 hL, z6_3 hL, z6_4 hL, hk, zb_M_item_4, eq_false c0, a1, zb_M_item_14, zb_M_item_72]
end
