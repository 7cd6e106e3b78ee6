/-! TEXT: the class's items: pea, eyes. -/
abbrev zWd (X : zX) (B : Nat → Int) (t : zTo) (x : Nat) : Prop := zIw B t (X x).1 (X x).2
def zWX (X : zX) : Prop := ∀ x, 4 ≤ x → x ≤ 18 → 0 < (X x).1 ∧ (X x).1 ≤ 100
def zrda (X : zX) (B : Nat → Int) (n : Nat) (T : zTb) (t : zTo) : Int × (zTo × zTb) :=
  if zWd X B (znx1 B n t) 12 then (1, (znx1 B n (znx1 B n t), zTset T 2 (-1))) else
    (if zNm (znx1 B n t) 0 (T.1 0 - 1) then (1, (znx1 B n (znx1 B n t), zTset T 2 (znx1 B n t).2.2.2)) else (0, (znx1 B n t, T)))
def zrde (X : zX) (B : Nat → Int) (n : Nat) (T : zTb) (t : zTo) : Int × (zTo × zTb) :=
  if zNm (znx1 B n t) 0 3 then
    (if zWd X B (znx1 B n (znx1 B n t)) 14 then
      (if zNm (znx1 B n (znx1 B n (znx1 B n t))) 0 10 then (1, (znx1 B n (znx1 B n (znx1 B n (znx1 B n t))), zTset T (47 + 2 * (znx1 B n t).2.2.2.toNat) (znx1 B n (znx1 B n (znx1 B n t))).2.2.2)) else (0, (znx1 B n (znx1 B n (znx1 B n t)), T)))
      else (0, (znx1 B n (znx1 B n t), T)))
    else (0, (znx1 B n t, T))
section
variable {X : zX} {C : zC} {d n nn : Nat} {L : zLt} {T : zTb} {I : Nat → Nat → Int} {B : Nat → Int} {t : zTo}
theorem zRdr_word (hL : zLay L) (hX : zWX X) (hB : zBy B n) (h : zRdr I B n t T) {x : Nat} (h4 : 4 ≤ x) (h18 : x ≤ 18) : zcal X zP (d + 1) 66 [.inr (.inr (.inl 123)), .inr (.inr (.inr x))] (I, L) = some (some (.inl (if zWd X B t x then 1 else 0)), (I, L)) := by
  have hq := zq_isWord (X := X) (d := d) hL hB.1 h4 (hX x h4 h18).1 (hX x h4 h18).2 h.2.2.1 h.2.2.2.1
  have e : (if zIw (I 124) t (X x).1 (X x).2 then (1 : Int) else 0) = if zWd X B t x then 1 else 0 := by
    by_cases c : zWd X B t x
    · rw [if_pos c, if_pos (zIw_cg (fun j hj => (h.1 j hj).symm) h.2.2.2.1.2 c)]
    · rw [if_neg c, if_neg (fun hh => c (zIw_cg h.1 h.2.2.2.1.2 hh))]
  rw [e] at hq
  exact hq
theorem zq_readPea (hL : zLay L) (hX : zWX X) (hB : zBy B n) (ho : zTOK nn T) (h : zRdr I B n t T) : ∃ I', zcal X zP (d + 4) 61 [.inr (.inr (.inl 123)), .inr (.inr (.inl 56))] (I, L) = some (some (.inl (zrda X B n T t).1), (I', L)) ∧ zRdr I' B n (zrda X B n T t).2.1 (zrda X B n T t).2.2 ∧ zRFr I I' := by
  have h14 := ho.2.2.2.2.1
  have h36 := ho.1
  have hw : Unit → w32 (T.1 0 - 1) = T.1 0 - 1 := fun _ => zw32 (by omega) (by omega)
  unfold zrda
  obtain ⟨I1, a1, a2, a3⟩ := zRdr_next (X := X) (d := d + 1) hL hB h14 h
  have z1 : I1 56 0 = T.1 0 := a2.2.2.2.2.1
  have hwd := zRdr_word (X := X) (d := d + 2) hL hX hB a2 (x := 12) (by omega) (by omega)
  generalize znx1 B n t = t1 at *
  by_cases c1 : zWd X B t1 12
  · rw [if_pos c1] at hwd
    rw [if_pos c1]
    obtain ⟨I2, b1, b2, b3⟩ := zRdr_next (X := X) (d := d + 1) hL hB h14 a2
    have hf : zRFr I2 (zwI I2 56 1 (-1)) := fun a ha _ => zwI_row (by omega)
    refine ⟨_, ?_, zRdr_tab b2 hf (zwI_row (by omega)) (zTC_set (Or.inr (Or.inl ⟨rfl, rfl⟩)) b2.2.2.2.2), zRFr_t a3 (zRFr_t b3 hf)⟩
    refine ((zcal_go zp_Tape_readPea rfl).trans zb_Tape_readPea_0).trans ?_
    simp only [if_true, if_false, Option.bind_some, Option.bind, Option.toList, List.cons_append, List.nil_append, zite0, zite1, zite01, znn, ite_not, true_or, or_true, true_and, and_true, zn10, zn00, zk_56 hL, zk_123 hL, a1, zb_Tape_readPea_4, hwd, zb_Tape_readPea_10, b1, zb_Tape_readPea_17, zw_I]
  · rw [if_neg c1] at hwd
    rw [if_neg c1]
    by_cases c2 : zNm t1 0 (T.1 0 - 1)
    · rw [if_pos c2]
      have hn1 : (t1.2.2.2 < 0) = False := eq_false (by have := c2.2.1; omega)
      obtain ⟨I2, b1, b2, b3⟩ := zRdr_takeY (X := X) (d := d) hL hB h14 a2 c2
      have hf : zRFr I2 (zwI I2 56 1 t1.2.2.2) := fun a ha _ => zwI_row (by omega)
      refine ⟨_, ?_, zRdr_tab b2 hf (zwI_row (by omega)) (zTC_set (Or.inr (Or.inl ⟨rfl, rfl⟩)) b2.2.2.2.2), zRFr_t a3 (zRFr_t b3 hf)⟩
      refine ((zcal_go zp_Tape_readPea rfl).trans zb_Tape_readPea_0).trans ?_
      simp only [if_true, if_false, Option.bind_some, Option.bind, Option.toList, List.cons_append, List.nil_append, zite0, zite1, zite01, znn, ite_not, true_or, or_true, true_and, and_true, zn10, zn00, zk_56 hL, zk_123 hL, a1, zb_Tape_readPea_4, hwd, zb_Tape_readPea_10, z1, hw (), b1, zb_Tape_readPea_35, hn1, zw_I]
    · rw [if_neg c2]
      have b1 := zq_takeN (X := X) (d := d) hL a2.2.2.1 c2
      have hm1 : ((-1 : Int) < 0) = True := eq_true (by decide)
      refine ⟨I1, ?_, a2, a3⟩
      refine ((zcal_go zp_Tape_readPea rfl).trans zb_Tape_readPea_0).trans ?_
      simp only [if_true, if_false, Option.bind_some, Option.bind, Option.toList, List.cons_append, List.nil_append, zite0, zite1, zite01, znn, ite_not, true_or, or_true, true_and, and_true, zn10, zn00, zk_56 hL, zk_123 hL, a1, zb_Tape_readPea_4, hwd, zb_Tape_readPea_10, z1, hw (), b1, zb_Tape_readPea_35, hm1]
theorem zq_readEye (hL : zLay L) (hX : zWX X) (hB : zBy B n) (ho : zTOK nn T) (h : zRdr I B n t T) : ∃ I', zcal X zP (d + 4) 62 [.inr (.inr (.inl 123)), .inr (.inr (.inl 56))] (I, L) = some (some (.inl (zrde X B n T t).1), (I', L)) ∧ zRdr I' B n (zrde X B n T t).2.1 (zrde X B n T t).2.2 ∧ zRFr I I' := by
  have h14 := ho.2.2.2.2.1
  have hm1 : ((-1 : Int) < 0) = True := eq_true (by decide)
  unfold zrde
  obtain ⟨I1, a1, a2, a3⟩ := zRdr_next (X := X) (d := d + 1) hL hB h14 h
  generalize znx1 B n t = t1 at *
  by_cases c1 : zNm t1 0 3
  · rw [if_pos c1]
    have hn1 : (t1.2.2.2 < 0) = False := eq_false (by have := c1.2.1; omega)
    obtain ⟨I2, b1, b2, b3⟩ := zRdr_takeY (X := X) (d := d) hL hB h14 a2 c1
    have hwd := zRdr_word (X := X) (d := d + 2) hL hX hB b2 (x := 14) (by omega) (by omega)
    generalize znx1 B n t1 = t2 at *
    by_cases c2 : zWd X B t2 14
    · rw [if_pos c2] at hwd
      rw [if_pos c2]
      obtain ⟨I3, d1, d2, d3⟩ := zRdr_next (X := X) (d := d + 1) hL hB h14 b2
      generalize znx1 B n t2 = t3 at *
      by_cases c3 : zNm t3 0 10
      · rw [if_pos c3]
        have hn3 : (t3.2.2.2 < 0) = False := eq_false (by have := c3.2.1; omega)
        obtain ⟨I4, e1, e2, e3⟩ := zRdr_takeY (X := X) (d := d) hL hB h14 d2 c3
        obtain ⟨e, he⟩ := Int.eq_ofNat_of_zero_le c1.2.1
        have he4 : e < 4 := by have := c1.2.2; omega
        have htab := ztabL hL (t := 56) (Or.inr (Or.inr rfl))
        obtain ⟨y1, y2⟩ := htab.2.2.2.2.2.2.2.2.2.2.1 e he4
        have y1 : L.1 58 e = 56 + 19 + e := y1
        have hf : zRFr I4 (zwI I4 (56 + 19 + e) 0 t3.2.2.2) := fun a ha _ => zwI_row (by omega)
        have ge : (((L.2.1 58).1 = 5 ∨ (L.2.1 58).1 = 6) ∧ 0 ≤ (e : Int) ∧ (e : Int) < ((L.2.1 58).2.1 : Int)) = True := by
          rw [zk_58 hL]
          exact eq_true ⟨Or.inl rfl, by omega, show (e : Int) < ((4 : Nat) : Int) by omega⟩
        rw [he] at b1 hn1 ⊢
        rw [Int.toNat_natCast]
        refine ⟨_, ?_, zRdr_tab e2 hf (zwI_row (by omega)) (zTC_eye he4 (by omega) h14 e2.2.2.2.2), zRFr_t a3 (zRFr_t b3 (zRFr_t d3 (zRFr_t e3 hf)))⟩
        refine ((zcal_go zp_Tape_readEye rfl).trans zb_Tape_readEye_0).trans ?_
        simp only [if_true, if_false, Option.bind_some, Option.bind, Option.toList, List.cons_append, List.nil_append, zite0, zite1, zite01, znn, ite_not, true_or, or_true, true_and, and_true, zn10, zn00, zk_56 hL, zk_123 hL, zr_56_6 hL, a1, zb_Tape_readEye_4, b1, zb_Tape_readEye_10, hn1, hwd, zb_Tape_readEye_21, d1, zb_Tape_readEye_30, e1, zb_Tape_readEye_37, hn3, ge, Int.toNat_natCast, y1, y2, zw_I]
      · rw [if_neg c3]
        have e1 := zq_takeN (X := X) (d := d) hL d2.2.2.1 c3
        refine ⟨I3, ?_, d2, zRFr_t a3 (zRFr_t b3 d3)⟩
        refine ((zcal_go zp_Tape_readEye rfl).trans zb_Tape_readEye_0).trans ?_
        simp only [if_true, if_false, Option.bind_some, Option.bind, Option.toList, List.cons_append, List.nil_append, zite0, zite1, zite01, znn, ite_not, true_or, or_true, true_and, and_true, zn10, zn00, zk_56 hL, zk_123 hL, a1, zb_Tape_readEye_4, b1, zb_Tape_readEye_10, hn1, hwd, zb_Tape_readEye_21, d1, zb_Tape_readEye_30, e1, zb_Tape_readEye_37, hm1]
    · rw [if_neg c2] at hwd
      rw [if_neg c2]
      refine ⟨I2, ?_, b2, zRFr_t a3 b3⟩
      refine ((zcal_go zp_Tape_readEye rfl).trans zb_Tape_readEye_0).trans ?_
      simp only [if_true, if_false, Option.bind_some, Option.bind, Option.toList, List.cons_append, List.nil_append, zite0, zite1, zite01, znn, ite_not, true_or, or_true, true_and, and_true, zn10, zn00, zk_56 hL, zk_123 hL, a1, zb_Tape_readEye_4, b1, zb_Tape_readEye_10, hn1, hwd, zb_Tape_readEye_21]
  · rw [if_neg c1]
    have b1 := zq_takeN (X := X) (d := d) hL a2.2.2.1 c1
    refine ⟨I1, ?_, a2, a3⟩
    refine ((zcal_go zp_Tape_readEye rfl).trans zb_Tape_readEye_0).trans ?_
    simp only [if_true, if_false, Option.bind_some, Option.bind, Option.toList, List.cons_append, List.nil_append, zite0, zite1, zite01, znn, ite_not, true_or, or_true, true_and, and_true, zn10, zn00, zk_56 hL, zk_123 hL, a1, zb_Tape_readEye_4, b1, zb_Tape_readEye_10, hm1]
end
