/-! TEXT: the reference's items: passes, pea, eyes. -/
section
variable {X : zX} {C : zC} {d n nn : Nat} {L : zLt} {T : zTb} {I : Nat → Nat → Int} {B : Nat → Int} {t : zTo}
theorem zMFr_add {m : Nat} {k a b : Int} : zMFr I (zJadd I m k a b) :=
  ⟨fun c _ hc => by unfold zJadd; rw [zwI_row hc, zwI_row hc, zwI_row hc, zwI_row hc], fun j _ => by unfold zJadd; rw [zwI_ne (by omega), zwI_ne (by omega), zwI_ne (by omega), zwI_ne (by omega)]⟩
theorem zMd_add {k a b : Int} (h14 : T.2.1 < 14) (h : zMd I B n t T) : zMd (zJadd I T.2.1 k a b) B n t (zTadd T k a b) :=
  zMd_tab h (by unfold zJadd; rw [zwI_row (by omega), zwI_row (by omega), zwI_row (by omega), zwI_row (by omega)]) (by unfold zJadd; rw [zwI_row (by omega), zwI_row (by omega), zwI_row (by omega), zwI_row (by omega)]) (zTM_add h14 h.2.2.2.2.2.2.2.2)
theorem zMd_set {j : Nat} {v : Int} (hj : j = 0 ∨ (2 ≤ j ∧ j ≤ 4) ∨ (47 ≤ j ∧ j < 81)) (h14 : T.2.1 ≤ 14) (h : zMd I B n t T) : zMd (zwI I 136 j v) B n t (zTset T j v) :=
  zMd_tab h (zwI_row (by omega)) (zwI_row (by omega)) (zTM_set hj h14 h.2.2.2.2.2.2.2.2)
theorem zw47 {e : Nat} (h : e < 4) : w32 (47 + w32 (2 * (e : Int))) = ((47 + 2 * e : Nat) : Int) := by
  rcases (show e = 0 ∨ e = 1 ∨ e = 2 ∨ e = 3 by omega) with rfl | rfl | rfl | rfl <;> decide
theorem zq_passHere (hL : zLay L) (hB : zBy B n) (ho : zTOK nn T) (h : zMd I B n t T) (h4 : t.1 ≠ 4) {k : Int} : ∃ I', zcal X zP (d + 4) 222 [.inr (.inr (.inl 135)), .inl k] (I, L) = some (none, (I', L)) ∧ zMo I' B n (zrdp B n T t k) ∧ zMFr I I' := by
  have h36 := ho.1
  have h14 := ho.2.2.2.2.1
  have e1 : I 136 1 = (T.2.1 : Int) := h.2.2.2.2.2.2.2.2.2.1
  have hw : Unit → w32 (T.1 0 - 1) = T.1 0 - 1 := fun _ => zw32 (by omega) (by omega)
  have hm1 : ((-1 : Int) < 0) = True := eq_true (by decide)
  have hnt : ∀ q : Nat, ((q : Int) < 0) = False := fun q => eq_false (by omega)
  unfold zrdp
  by_cases c1 : T.2.1 < 14
  · rw [if_pos c1]
    have c1' : ((T.2.1 : Int) = 14) = False := eq_false (by omega)
    obtain ⟨I1, a1, a2, a3⟩ := zMd_next (X := X) (d := d + 1) hL hB h h4
    have z1 : I1 136 0 = T.1 0 := a2.2.2.2.2.2.2.2.2.1 0 (Or.inl rfl)
    generalize znx1 B n t = t1 at *
    by_cases c2 : zNm t1 0 (T.1 0 - 1)
    · rw [if_pos c2]
      obtain ⟨I2, b1, b2, b3⟩ := zMd_numY (X := X) (d := d) hL hB a2 (show T.1 0 - 1 ≤ 9999 by omega) c2
      have z2 : I2 136 0 = T.1 0 := b2.2.2.2.2.2.2.2.2.1 0 (Or.inl rfl)
      have u26 : I2 135 26 = -1 := b2.2.2.1
      have s2 : I2 135 23 = (znx1 B n t1).1 := b2.2.2.2.1
      have g2 := b2.2.2.2.2.2.2.1
      generalize znx1 B n t1 = t2 at *
      have l1 : t1.2.2.2 ≤ 9999 := by have := c2.2.2; omega
      by_cases c3 : t2.1 = 2 ∧ t2.2.2.2 = t1.2.2.2
      · rw [if_pos c3]
        have e25 : I2 135 25 = t1.2.2.2 := (zNN_eq (g2.2.1 c3.1) l1).2 c3.2
        have hwr := zMd_wrong (X := X) (d := d + 2) hL b2
        refine ⟨_, ?_, Or.inr ⟨rfl, zwI_eq⟩, zMFr_t a3 (zMFr_t b3 zMFr_26)⟩
        refine ((zcal_go zp_M_passHere rfl).trans zb_M_passHere_0).trans ?_
        simp only [if_true, if_false, Option.bind_some, Option.bind, Option.toList, List.cons_append, List.nil_append, zite0, zite1, zite01, znn, ite_not, true_or, or_true, true_and, and_true, zn10, zn00, zk_135 hL, zr_135_0 hL, z6_0 hL, z6_1 hL, z6_2 hL, z6_3 hL, z6_4 hL, e1, c1', a1, zb_M_passHere_20, z1, hw (), b1, zb_M_passHere_33, u26, hm1, s2, eq_true c3.1, e25, zcmp_eq0, hwr, zb_M_passHere_64]
      · rw [if_neg c3]
        by_cases c4 : zNm t2 0 (T.1 0 - 1)
        · rw [if_pos c4]
          obtain ⟨I3, d1, d2, d3⟩ := zMd_numY (X := X) (d := d) hL hB b2 (show T.1 0 - 1 ≤ 9999 by omega) c4
          have v26 : I3 135 26 = -1 := d2.2.2.1
          have c5 : ¬ I2 135 25 = t1.2.2.2 := fun hh => c3 ⟨c4.1, (zNN_eq (g2.2.1 c4.1) l1).1 hh⟩
          have hadd := zq_M_comes (X := X) (d := d + 2) (k := k) (a := t1.2.2.2) (b := t2.2.2.2) hL d2.2.2.2.2.2.2.2.2 c1
          refine ⟨_, ?_, Or.inl ⟨rfl, zMd_add c1 d2⟩, zMFr_t a3 (zMFr_t b3 (zMFr_t d3 zMFr_add))⟩
          refine ((zcal_go zp_M_passHere rfl).trans zb_M_passHere_0).trans ?_
          simp only [if_true, if_false, Option.bind_some, Option.bind, Option.toList, List.cons_append, List.nil_append, zite0, zite1, zite01, znn, ite_not, true_or, or_true, true_and, and_true, zn10, zn00, zk_135 hL, zr_135_0 hL, z6_0 hL, z6_1 hL, z6_2 hL, z6_3 hL, z6_4 hL, e1, c1', a1, zb_M_passHere_20, z1, hw (), b1, zb_M_passHere_33, u26, hm1, s2, eq_true c4.1, zcmp_eq0, eq_false c5, z2, d1, zb_M_passHere_78, v26, hadd, zb_M_passHere_93]
        · rw [if_neg c4]
          have d1 := zMd_numN (X := X) (d := d) hL b2 (show T.1 0 - 1 ≤ 9999 by omega) c4
          refine ⟨_, ?_, Or.inr ⟨rfl, zwI_eq⟩, zMFr_t a3 (zMFr_t b3 zMFr_26)⟩
          by_cases c6 : t2.1 = 2
          · have c5 : ¬ I2 135 25 = t1.2.2.2 := fun hh => c3 ⟨c6, (zNN_eq (g2.2.1 c6) l1).1 hh⟩
            refine ((zcal_go zp_M_passHere rfl).trans zb_M_passHere_0).trans ?_
            simp only [if_true, if_false, Option.bind_some, Option.bind, Option.toList, List.cons_append, List.nil_append, zite0, zite1, zite01, znn, ite_not, true_or, or_true, true_and, and_true, zn10, zn00, zk_135 hL, zr_135_0 hL, z6_0 hL, z6_1 hL, z6_2 hL, z6_3 hL, z6_4 hL, e1, c1', a1, zb_M_passHere_20, z1, hw (), b1, zb_M_passHere_33, u26, hm1, s2, eq_true c6, zcmp_eq0, eq_false c5, z2, d1, zb_M_passHere_78, zwI_eq, hnt]
          · refine ((zcal_go zp_M_passHere rfl).trans zb_M_passHere_0).trans ?_
            simp only [if_true, if_false, Option.bind_some, Option.bind, Option.toList, List.cons_append, List.nil_append, zite0, zite1, zite01, znn, ite_not, true_or, or_true, true_and, and_true, zn10, zn00, zk_135 hL, zr_135_0 hL, z6_0 hL, z6_1 hL, z6_2 hL, z6_3 hL, z6_4 hL, e1, c1', a1, zb_M_passHere_20, z1, hw (), b1, zb_M_passHere_33, u26, hm1, s2, eq_false c6, z2, d1, zb_M_passHere_78, zwI_eq, hnt]
    · rw [if_neg c2]
      have d1 := zMd_numN (X := X) (d := d) hL a2 (show T.1 0 - 1 ≤ 9999 by omega) c2
      refine ⟨_, ?_, Or.inr ⟨rfl, zwI_eq⟩, zMFr_t a3 zMFr_26⟩
      refine ((zcal_go zp_M_passHere rfl).trans zb_M_passHere_0).trans ?_
      simp only [if_true, if_false, Option.bind_some, Option.bind, Option.toList, List.cons_append, List.nil_append, zite0, zite1, zite01, znn, ite_not, true_or, or_true, true_and, and_true, zn10, zn00, zk_135 hL, zr_135_0 hL, z6_0 hL, z6_1 hL, z6_2 hL, z6_3 hL, z6_4 hL, e1, c1', a1, zb_M_passHere_20, z1, hw (), d1, zb_M_passHere_33, zwI_eq, hnt]
  · rw [if_neg c1]
    have c1' : ((T.2.1 : Int) = 14) = True := eq_true (by omega)
    have hwr := zMd_wrong (X := X) (d := d + 2) hL h
    refine ⟨_, ?_, Or.inr ⟨rfl, zwI_eq⟩, zMFr_26⟩
    refine ((zcal_go zp_M_passHere rfl).trans zb_M_passHere_0).trans ?_
    simp only [if_true, if_false, Option.bind_some, Option.bind, Option.toList, List.cons_append, List.nil_append, zite0, zite1, zite01, znn, ite_not, true_or, or_true, true_and, and_true, zn10, zn00, zk_135 hL, zr_135_0 hL, z6_0 hL, z6_1 hL, z6_2 hL, z6_3 hL, z6_4 hL, e1, c1', hwr, zb_M_passHere_15]
theorem zq_peaHere (hL : zLay L) (hC : zXC X) (hB : zBy B n) (ho : zTOK nn T) (h : zMd I B n t T) (h4 : t.1 ≠ 4) : ∃ I', zcal X zP (d + 4) 223 [.inr (.inr (.inl 135))] (I, L) = some (none, (I', L)) ∧ zMo I' B n (zrda X B n T t) ∧ zMFr I I' := by
  have h36 := ho.1
  have h14 := ho.2.2.2.2.1
  have hw : Unit → w32 (T.1 0 - 1) = T.1 0 - 1 := fun _ => zw32 (by omega) (by omega)
  have hm1 : ((-1 : Int) < 0) = True := eq_true (by decide)
  have hnt : ∀ q : Nat, ((q : Int) < 0) = False := fun q => eq_false (by omega)
  have e10 : ((1 : Int) = 0) = False := eq_false (by decide)
  have e00 : ((0 : Int) = 0) = True := eq_true rfl
  unfold zrda
  obtain ⟨I1, a1, a2, a3⟩ := zMd_next (X := X) (d := d + 1) hL hB h h4
  have z1 : I1 136 0 = T.1 0 := a2.2.2.2.2.2.2.2.2.1 0 (Or.inl rfl)
  generalize znx1 B n t = t1 at *
  have hwd : zcal X zP (d + 3) 219 [.inr (.inr (.inl 135)), .inr (.inl 158575)] (I1, L) = _ := zMd_word (X := X) (d := d + 2) hL hC a2 (x := 12) (by omega) (by omega)
  by_cases c1 : zWd X B t1 12
  · rw [if_pos c1] at hwd
    rw [if_pos c1]
    have c0 : t1.1 = 1 := c1.1
    obtain ⟨I2, b1, b2, b3⟩ := zMd_next (X := X) (d := d + 1) hL hB (zMd_set (j := 2) (v := -1) (by omega) h14 a2) (by omega)
    refine ⟨I2, ?_, Or.inl ⟨rfl, b2⟩, zMFr_t a3 (zMFr_t zMFr_136 b3)⟩
    refine ((zcal_go zp_M_peaHere rfl).trans zb_M_peaHere_0).trans ?_
    simp only [if_true, if_false, Option.bind_some, Option.bind, Option.toList, List.cons_append, List.nil_append, zite0, zite1, zite01, znn, ite_not, true_or, or_true, true_and, and_true, zn10, zn00, zk_135 hL, zr_135_0 hL, z6_0 hL, z6_1 hL, z6_2 hL, z6_3 hL, z6_4 hL, a1, zb_M_peaHere_4, hwd, zb_M_peaHere_11, e10, zw_I, b1, zb_M_peaHere_25]
  · rw [if_neg c1] at hwd
    rw [if_neg c1]
    by_cases c2 : zNm t1 0 (T.1 0 - 1)
    · rw [if_pos c2]
      obtain ⟨I2, b1, b2, b3⟩ := zMd_numY (X := X) (d := d) hL hB a2 (show T.1 0 - 1 ≤ 9999 by omega) c2
      have u26 : I2 135 26 = -1 := b2.2.2.1
      refine ⟨_, ?_, Or.inl ⟨rfl, zMd_set (j := 2) (by omega) h14 b2⟩, zMFr_t a3 (zMFr_t b3 zMFr_136)⟩
      refine ((zcal_go zp_M_peaHere rfl).trans zb_M_peaHere_0).trans ?_
      simp only [if_true, if_false, Option.bind_some, Option.bind, Option.toList, List.cons_append, List.nil_append, zite0, zite1, zite01, znn, ite_not, true_or, or_true, true_and, and_true, zn10, zn00, zk_135 hL, zr_135_0 hL, z6_0 hL, z6_1 hL, z6_2 hL, z6_3 hL, z6_4 hL, a1, zb_M_peaHere_4, hwd, zb_M_peaHere_11, e00, z1, hw (), b1, zb_M_peaHere_39, u26, hm1, zw_I]
    · rw [if_neg c2]
      have b1 := zMd_numN (X := X) (d := d) hL a2 (show T.1 0 - 1 ≤ 9999 by omega) c2
      refine ⟨zwI (zwI I1 135 26 (t1.2.1 : Int)) 136 2 (zwI I1 135 26 (t1.2.1 : Int) 136 2), ?_, Or.inr ⟨rfl, by rw [zwI_ne (by omega), zwI_eq]⟩, zMFr_t a3 (zMFr_t zMFr_26 zMFr_136)⟩
      refine ((zcal_go zp_M_peaHere rfl).trans zb_M_peaHere_0).trans ?_
      simp only [if_true, if_false, Option.bind_some, Option.bind, Option.toList, List.cons_append, List.nil_append, zite0, zite1, zite01, znn, ite_not, true_or, or_true, true_and, and_true, zn10, zn00, zk_135 hL, zr_135_0 hL, z6_0 hL, z6_1 hL, z6_2 hL, z6_3 hL, z6_4 hL, a1, zb_M_peaHere_4, hwd, zb_M_peaHere_11, e00, z1, hw (), b1, zb_M_peaHere_39, zwI_eq, hnt, zw_I]
theorem zq_eyeHere (hL : zLay L) (hC : zXC X) (hB : zBy B n) (ho : zTOK nn T) (h : zMd I B n t T) (h4 : t.1 ≠ 4) : ∃ I', zcal X zP (d + 4) 224 [.inr (.inr (.inl 135))] (I, L) = some (none, (I', L)) ∧ zMo I' B n (zrde X B n T t) ∧ zMFr I I' := by
  have h14 := ho.2.2.2.2.1
  have hm1 : ((-1 : Int) < 0) = True := eq_true (by decide)
  have hnt : ∀ q : Nat, ((q : Int) < 0) = False := fun q => eq_false (by omega)
  have e10 : ((1 : Int) = 0) = False := eq_false (by decide)
  have e00 : ((0 : Int) = 0) = True := eq_true rfl
  unfold zrde
  obtain ⟨I1, a1, a2, a3⟩ := zMd_next (X := X) (d := d + 1) hL hB h h4
  generalize znx1 B n t = t1 at *
  by_cases c1 : zNm t1 0 3
  · rw [if_pos c1]
    obtain ⟨I2, b1, b2, b3⟩ := zMd_numY (X := X) (d := d) hL hB a2 (show (3 : Int) ≤ 9999 by decide) c1
    have u26 : I2 135 26 = -1 := b2.2.2.1
    generalize znx1 B n t1 = t2 at *
    have hwd : zcal X zP (d + 3) 219 [.inr (.inr (.inl 135)), .inr (.inl 382984)] (I2, L) = _ := zMd_word (X := X) (d := d + 2) hL hC b2 (x := 14) (by omega) (by omega)
    by_cases c2 : zWd X B t2 14
    · rw [if_pos c2] at hwd
      rw [if_pos c2]
      have c0 : t2.1 = 1 := c2.1
      obtain ⟨I3, d1, d2, d3⟩ := zMd_next (X := X) (d := d + 1) hL hB b2 (by omega)
      generalize znx1 B n t2 = t3 at *
      obtain ⟨e, he⟩ := Int.eq_ofNat_of_zero_le c1.2.1
      have he4 : e < 4 := by have := c1.2.2; omega
      rw [he] at b1 ⊢
      rw [Int.toNat_natCast]
      have ej : w32 (47 + w32 (2 * (e : Int))) = ((47 + 2 * e : Nat) : Int) := zw47 he4
      have gd := zd136 hL (show 0 ≤ ((47 + 2 * e : Nat) : Int) ∧ ((47 + 2 * e : Nat) : Int) < 96 by omega)
      by_cases c3 : zNm t3 0 10
      · rw [if_pos c3]
        obtain ⟨I4, f1, f2, f3⟩ := zMd_numY (X := X) (d := d) hL hB d2 (show (10 : Int) ≤ 9999 by decide) c3
        have v26 : I4 135 26 = -1 := f2.2.2.1
        refine ⟨_, ?_, Or.inl ⟨rfl, zMd_set (j := 47 + 2 * e) (by omega) h14 f2⟩, zMFr_t a3 (zMFr_t b3 (zMFr_t d3 (zMFr_t f3 zMFr_136)))⟩
        refine ((zcal_go zp_M_eyeHere rfl).trans zb_M_eyeHere_0).trans ?_
        simp only [if_true, if_false, Option.bind_some, Option.bind, Option.toList, List.cons_append, List.nil_append, zite0, zite1, zite01, znn, ite_not, true_or, or_true, true_and, and_true, zn10, zn00, zk_135 hL, zr_135_0 hL, z6_0 hL, z6_1 hL, z6_2 hL, z6_3 hL, z6_4 hL, a1, zb_M_eyeHere_4, b1, zb_M_eyeHere_10, u26, hm1, hwd, zb_M_eyeHere_26, e10, d1, zb_M_eyeHere_38, f1, zb_M_eyeHere_45, v26, ej, gd, Int.toNat_natCast, zw_I]
      · rw [if_neg c3]
        have f1 := zMd_numN (X := X) (d := d) hL d2 (show (10 : Int) ≤ 9999 by decide) c3
        refine ⟨zwI (zwI I3 135 26 (t3.2.1 : Int)) 136 (47 + 2 * e) (zwI I3 135 26 (t3.2.1 : Int) 136 (47 + 2 * e)), ?_, Or.inr ⟨rfl, by rw [zwI_ne (by omega), zwI_eq]⟩, zMFr_t a3 (zMFr_t b3 (zMFr_t d3 (zMFr_t zMFr_26 zMFr_136)))⟩
        refine ((zcal_go zp_M_eyeHere rfl).trans zb_M_eyeHere_0).trans ?_
        simp only [if_true, if_false, Option.bind_some, Option.bind, Option.toList, List.cons_append, List.nil_append, zite0, zite1, zite01, znn, ite_not, true_or, or_true, true_and, and_true, zn10, zn00, zk_135 hL, zr_135_0 hL, z6_0 hL, z6_1 hL, z6_2 hL, z6_3 hL, z6_4 hL, a1, zb_M_eyeHere_4, b1, zb_M_eyeHere_10, u26, hm1, hwd, zb_M_eyeHere_26, e10, d1, zb_M_eyeHere_38, f1, zb_M_eyeHere_45, zwI_eq, hnt, ej, gd, Int.toNat_natCast, zw_I]
    · rw [if_neg c2] at hwd
      rw [if_neg c2]
      have hwr := zMd_wrong (X := X) (d := d + 2) hL b2
      refine ⟨_, ?_, Or.inr ⟨rfl, zwI_eq⟩, zMFr_t a3 (zMFr_t b3 zMFr_26)⟩
      refine ((zcal_go zp_M_eyeHere rfl).trans zb_M_eyeHere_0).trans ?_
      simp only [if_true, if_false, Option.bind_some, Option.bind, Option.toList, List.cons_append, List.nil_append, zite0, zite1, zite01, znn, ite_not, true_or, or_true, true_and, and_true, zn10, zn00, zk_135 hL, zr_135_0 hL, z6_0 hL, z6_1 hL, z6_2 hL, z6_3 hL, z6_4 hL, a1, zb_M_eyeHere_4, b1, zb_M_eyeHere_10, u26, hm1, hwd, zb_M_eyeHere_26, e00, hwr, zb_M_eyeHere_33]
  · rw [if_neg c1]
    have b1 := zMd_numN (X := X) (d := d) hL a2 (show (3 : Int) ≤ 9999 by decide) c1
    refine ⟨_, ?_, Or.inr ⟨rfl, zwI_eq⟩, zMFr_t a3 zMFr_26⟩
    refine ((zcal_go zp_M_eyeHere rfl).trans zb_M_eyeHere_0).trans ?_
    simp only [if_true, if_false, Option.bind_some, Option.bind, Option.toList, List.cons_append, List.nil_append, zite0, zite1, zite01, znn, ite_not, true_or, or_true, true_and, and_true, zn10, zn00, zk_135 hL, zr_135_0 hL, z6_0 hL, z6_1 hL, z6_2 hL, z6_3 hL, z6_4 hL, a1, zb_M_eyeHere_4, b1, zb_M_eyeHere_10, zwI_eq, hnt]
end
