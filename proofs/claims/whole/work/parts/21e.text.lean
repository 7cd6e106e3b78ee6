/-! TEXT: the reference's items: players. -/
section
variable {X : zX} {C : zC} {d n nn : Nat} {L : zLt} {T : zTb} {I : Nat → Nat → Int} {B : Nat → Int} {t : zTo}
theorem zm_own (hL : zLay L) (hC : zXC X) (hB : zBy B n) {e : Nat} (he : e < 4) : ∀ (m w : Nat) (t : zTo) (T : zTb) (o3 o4 : Option zV) (I : Nat → Nat → Int), w + m = 3 → T.2.1 ≤ 14 → zMd I B n t T → ∃ I', zgo X (zcal X zP (d + 3)) zc_M_playerHere 13 [some (.inr (.inr (.inl 135))), some (.inl (e : Int)), some (.inl (w : Int)), o3, o4] [] (I, L) = some (none, (I', L)) ∧ zMo I' B n (zrdl X B n e m w t T) ∧ zMFr I I' := by
  have hm1 : ((-1 : Int) < 0) = True := eq_true (by decide)
  have hnt : ∀ q : Nat, ((q : Int) < 0) = False := fun q => eq_false (by omega)
  have e10 : ((1 : Int) = 0) = False := eq_false (by decide)
  have e00 : ((0 : Int) = 0) = True := eq_true rfl
  intro m
  induction m with
  | zero =>
    intro w t T o3 o4 I hw h14 h
    have h3w : ((w : Int) < 3) = False := eq_false (by omega)
    refine ⟨I, ?_, Or.inl ⟨rfl, h⟩, zMFr_r⟩
    refine zb_M_playerHere_13.trans ?_
    simp only [if_true, if_false, Option.bind_some, Option.bind, Option.toList, List.cons_append, List.nil_append, zite0, zite1, zite01, znn, ite_not, true_or, or_true, true_and, and_true, zn10, zn00, h3w]
  | succ m ih =>
    intro w t T o3 o4 I hw h14 h
    have hwm : w < 1000000 := by omega
    have h3w : ((w : Int) < 3) = True := eq_true (by omega)
    have hwd := zMd_word (X := X) (d := d + 2) hL hC h (x := 16 + w) (by omega) (by omega)
    have u26 : I 135 26 = -1 := h.2.2.1
    have h13 : zgo X (zcal X zP (d + 3)) zc_M_playerHere 13 [some (.inr (.inr (.inl 135))), some (.inl (e : Int)), some (.inl (w : Int)), o3, o4] [] (I, L) = zgo X (zcal X zP (d + 3)) zc_M_playerHere 61 [some (.inr (.inr (.inl 135))), some (.inl (e : Int)), some (.inl (w : Int)), o3, o4] [.inl (if zWd X B t (16 + w) then 1 else 0)] (I, L) := by
      generalize (if zWd X B t (16 + w) then (1 : Int) else 0) = r at *
      refine zb_M_playerHere_13.trans ?_
      rcases (show w = 0 ∨ w = 1 ∨ w = 2 by omega) with rfl | rfl | rfl
      · have hwd : zcal X zP (d + 3) 219 [.inr (.inr (.inl 135)), .inr (.inl 8930039)] (I, L) = _ := hwd
        have w0 : (((0 : Nat) : Int) = 0) = True := eq_true rfl
        simp only [if_true, if_false, Option.bind_some, Option.bind, Option.toList, List.cons_append, List.nil_append, zite0, zite1, zite01, znn, ite_not, true_or, or_true, true_and, and_true, zn10, zn00, zk_135 hL, zr_135_0 hL, z6_0 hL, z6_1 hL, z6_2 hL, z6_3 hL, z6_4 hL, h3w, u26, hm1, w0, hwd, zb_M_playerHere_36]
      · have hwd : zcal X zP (d + 3) 219 [.inr (.inr (.inl 135)), .inr (.inl 10492070)] (I, L) = _ := hwd
        have w0 : (((1 : Nat) : Int) = 0) = False := eq_false (by decide)
        have w1 : (((1 : Nat) : Int) = 1) = True := eq_true rfl
        simp only [if_true, if_false, Option.bind_some, Option.bind, Option.toList, List.cons_append, List.nil_append, zite0, zite1, zite01, znn, ite_not, true_or, or_true, true_and, and_true, zn10, zn00, zk_135 hL, zr_135_0 hL, z6_0 hL, z6_1 hL, z6_2 hL, z6_3 hL, z6_4 hL, h3w, u26, hm1, w0, w1, hwd, zb_M_playerHere_51]
      · have hwd : zcal X zP (d + 3) 219 [.inr (.inr (.inl 135)), .inr (.inl 1162531)] (I, L) = _ := hwd
        have w0 : (((2 : Nat) : Int) = 0) = False := eq_false (by decide)
        have w1 : (((2 : Nat) : Int) = 1) = False := eq_false (by decide)
        simp only [if_true, if_false, Option.bind_some, Option.bind, Option.toList, List.cons_append, List.nil_append, zite0, zite1, zite01, znn, ite_not, true_or, or_true, true_and, and_true, zn10, zn00, zk_135 hL, zr_135_0 hL, z6_0 hL, z6_1 hL, z6_2 hL, z6_3 hL, z6_4 hL, h3w, u26, hm1, w0, w1, hwd]
    have h73 : ∀ (v3 : Int) (J : Nat → Nat → Int), zgo X (zcal X zP (d + 3)) zc_M_playerHere 73 [some (.inr (.inr (.inl 135))), some (.inl (e : Int)), some (.inl (w : Int)), some (.inl v3), o4] [] (J, L) = (zcal X zP (d + 3) 221 [.inr (.inr (.inl 135)), .inl (zleast (w : Int)), .inl (zmost (w : Int))] (J, L)).bind fun q => zgo X (zcal X zP (d + 3)) zc_M_playerHere 108 [some (.inr (.inr (.inl 135))), some (.inl (e : Int)), some (.inl (w : Int)), some (.inl v3), o4] (q.1.toList ++ []) q.2 := by
      intro v3 J
      refine zb_M_playerHere_73.trans ?_
      rcases (show w = 0 ∨ w = 1 ∨ w = 2 by omega) with rfl | rfl | rfl
      · have w0 : (((0 : Nat) : Int) = 0) = True := eq_true rfl
        simp only [w0, if_true, zk_135 hL]
        rfl
      · have w0 : (((1 : Nat) : Int) = 0) = False := eq_false (by decide)
        have w1 : (((1 : Nat) : Int) = 1) = True := eq_true rfl
        simp only [w0, w1, if_true, if_false, zk_135 hL]
        rfl
      · have w0 : (((2 : Nat) : Int) = 0) = False := eq_false (by decide)
        have w1 : (((2 : Nat) : Int) = 1) = False := eq_false (by decide)
        simp only [w0, w1, if_true, if_false, zk_135 hL]
        rfl
    have hmo : zmost (w : Int) ≤ 9999 := by
      rcases (show w = 0 ∨ w = 1 ∨ w = 2 by omega) with rfl | rfl | rfl <;> decide
    have eL : zrdl X B n e (m + 1) w t T = if (zrdo X B n e w t T).1 = 1 then zrdl X B n e m (w + 1) (zrdo X B n e w t T).2.1 (zrdo X B n e w t T).2.2 else zrdo X B n e w t T := rfl
    rw [eL]
    by_cases c1 : zWd X B t (16 + w)
    · rw [if_pos c1] at h13
      have c0 : t.1 = 1 := c1.1
      obtain ⟨I1, a1, a2, a3⟩ := zMd_next (X := X) (d := d + 1) hL hB h (by omega)
      by_cases c2 : zNm (znx1 B n t) (zleast (w : Int)) (zmost (w : Int))
      · have eo : zrdo X B n e w t T = (1, (znx1 B n (znx1 B n t), zTset T (55 + 4 * e + w) (znx1 B n t).2.2.2)) := (if_pos c1).trans (if_pos c2)
        rw [eo, if_pos rfl]
        obtain ⟨I2, b1, b2, b3⟩ := zMd_numY (X := X) (d := d) hL hB a2 hmo c2
        have v26 : I2 135 26 = -1 := b2.2.2.1
        have hz := zq_M_sets (X := X) (d := d + 2) hL (I := I2) (p := e) (w := w) (v := (znx1 B n t).2.2.2) he (by omega)
        obtain ⟨I3, d1, d2, d3⟩ := ih (w + 1) (znx1 B n (znx1 B n t)) (zTset T (55 + 4 * e + w) (znx1 B n t).2.2.2) (some (.inl 1)) (some (.inl (znx1 B n t).2.2.2)) _ (by omega) h14 (zMd_set (j := 55 + 4 * e + w) (v := (znx1 B n t).2.2.2) (by omega) h14 b2)
        refine ⟨I3, h13.trans ?_, d2, zMFr_t a3 (zMFr_t b3 (zMFr_t zMFr_136 d3))⟩
        refine zb_M_playerHere_61.trans ?_
        simp only [if_true, if_false, Option.bind_some, Option.bind, Option.toList, List.cons_append, List.nil_append, zite0, zite1, zite01, znn, ite_not, true_or, or_true, true_and, and_true, zn10, zn00, zk_135 hL, zr_135_0 hL, z6_0 hL, z6_1 hL, z6_2 hL, z6_3 hL, z6_4 hL, e10, a1, h73, b1, zb_M_playerHere_108, v26, hm1, hz, zb_M_playerHere_125, zw32n hwm, d1]
      · have eo : zrdo X B n e w t T = (0, (znx1 B n t, T)) := (if_pos c1).trans (if_neg c2)
        rw [eo, if_neg (show ¬ (0 : Int) = 1 by decide)]
        have b1 := zMd_numN (X := X) (d := d) hL a2 hmo c2
        refine ⟨_, h13.trans ?_, Or.inr ⟨rfl, zwI_eq⟩, zMFr_t a3 zMFr_26⟩
        refine zb_M_playerHere_61.trans ?_
        by_cases c3 : w + 1 < 3
        · have h3 : (((w + 1 : Nat) : Int) < 3) = True := eq_true (by omega)
          simp only [if_true, if_false, Option.bind_some, Option.bind, Option.toList, List.cons_append, List.nil_append, zite0, zite1, zite01, znn, ite_not, true_or, or_true, true_and, and_true, zn10, zn00, zk_135 hL, zr_135_0 hL, z6_0 hL, z6_1 hL, z6_2 hL, z6_3 hL, z6_4 hL, e10, a1, h73, b1, zb_M_playerHere_108, zwI_eq, hnt, zb_M_playerHere_125, zw32n hwm, zb_M_playerHere_13, h3]
        · have h3 : (((w + 1 : Nat) : Int) < 3) = False := eq_false (by omega)
          simp only [if_true, if_false, Option.bind_some, Option.bind, Option.toList, List.cons_append, List.nil_append, zite0, zite1, zite01, znn, ite_not, true_or, or_true, true_and, and_true, zn10, zn00, zk_135 hL, zr_135_0 hL, z6_0 hL, z6_1 hL, z6_2 hL, z6_3 hL, z6_4 hL, e10, a1, h73, b1, zb_M_playerHere_108, zwI_eq, hnt, zb_M_playerHere_125, zw32n hwm, zb_M_playerHere_13, h3]
    · rw [if_neg c1] at h13
      have eo : zrdo X B n e w t T = (1, (t, T)) := if_neg c1
      rw [eo, if_pos rfl]
      obtain ⟨I3, d1, d2, d3⟩ := ih (w + 1) t T (some (.inl 0)) o4 I (by omega) h14 h
      refine ⟨I3, h13.trans ?_, d2, d3⟩
      refine zb_M_playerHere_61.trans ?_
      simp only [if_true, if_false, Option.bind_some, Option.bind, Option.toList, List.cons_append, List.nil_append, zite0, zite1, zite01, znn, ite_not, true_or, or_true, true_and, and_true, zn10, zn00, zk_135 hL, zr_135_0 hL, z6_0 hL, z6_1 hL, z6_2 hL, z6_3 hL, z6_4 hL, e00, zb_M_playerHere_125, zw32n hwm, d1]
theorem zq_playerHere (hL : zLay L) (hC : zXC X) (hB : zBy B n) (h14 : T.2.1 ≤ 14) (h : zMd I B n t T) (h4 : t.1 ≠ 4) : ∃ I', zcal X zP (d + 4) 225 [.inr (.inr (.inl 135))] (I, L) = some (none, (I', L)) ∧ zMo I' B n (zrdq X B n T t) ∧ zMFr I I' := by
  unfold zrdq
  obtain ⟨I1, a1, a2, a3⟩ := zMd_next (X := X) (d := d + 1) hL hB h h4
  generalize znx1 B n t = t1 at *
  by_cases c1 : zNm t1 0 3
  · rw [if_pos c1]
    obtain ⟨I2, b1, b2, b3⟩ := zMd_numY (X := X) (d := d) hL hB a2 (show (3 : Int) ≤ 9999 by decide) c1
    obtain ⟨e, he⟩ := Int.eq_ofNat_of_zero_le c1.2.1
    have he4 : e < 4 := by have := c1.2.2; omega
    rw [he] at b1 ⊢
    rw [Int.toNat_natCast]
    obtain ⟨I3, d1, d2, d3⟩ := zm_own (X := X) (d := d) hL hC hB he4 3 0 (znx1 B n t1) T none none I2 (by omega) h14 b2
    have d1 : zgo X (zcal X zP (d + 3)) zc_M_playerHere 13 [some (.inr (.inr (.inl 135))), some (.inl (e : Int)), some (.inl 0), none, none] [] (I2, L) = _ := d1
    refine ⟨I3, ?_, d2, zMFr_t a3 (zMFr_t b3 d3)⟩
    refine ((zcal_go zp_M_playerHere rfl).trans zb_M_playerHere_0).trans ?_
    simp only [if_true, if_false, Option.bind_some, Option.bind, Option.toList, List.cons_append, List.nil_append, zite0, zite1, zite01, znn, ite_not, true_or, or_true, true_and, and_true, zn10, zn00, zk_135 hL, zr_135_0 hL, z6_0 hL, z6_1 hL, z6_2 hL, z6_3 hL, z6_4 hL, a1, zb_M_playerHere_4, b1, zb_M_playerHere_10, d1]
  · rw [if_neg c1]
    have b1 := zMd_numN (X := X) (d := d) hL a2 (show (3 : Int) ≤ 9999 by decide) c1
    have hnt : ∀ q : Nat, ((q : Int) < 0) = False := fun q => eq_false (by omega)
    have h03 : ((0 : Int) < 3) = True := eq_true (by decide)
    refine ⟨_, ?_, Or.inr ⟨rfl, zwI_eq⟩, zMFr_t a3 zMFr_26⟩
    refine ((zcal_go zp_M_playerHere rfl).trans zb_M_playerHere_0).trans ?_
    simp only [if_true, if_false, Option.bind_some, Option.bind, Option.toList, List.cons_append, List.nil_append, zite0, zite1, zite01, znn, ite_not, true_or, or_true, true_and, and_true, zn10, zn00, zk_135 hL, zr_135_0 hL, z6_0 hL, z6_1 hL, z6_2 hL, z6_3 hL, z6_4 hL, a1, zb_M_playerHere_4, b1, zb_M_playerHere_10, zb_M_playerHere_13, h03, zwI_eq, hnt]
end
