/-! TEXT: the reference's reader at a token: words and numbers. -/
def zMd (I : Nat → Nat → Int) (B : Nat → Int) (n : Nat) (t : zTo) (T : zTb) : Prop := (∀ j, j < n → I 140 j = B j) ∧ I 135 6 = (n : Int) ∧ I 135 26 = -1 ∧ I 135 23 = t.1 ∧ I 135 24 = (t.2.1 : Int) ∧ (t.1 ≠ 4 → I 135 22 = (t.2.2.1 : Int)) ∧ zTg (I 140) t (I 135 25) ∧ (t.2.1 ≤ t.2.2.1 ∧ t.2.2.1 ≤ n) ∧ zTM I 136 T
def zMFr (I I' : Nat → Nat → Int) : Prop := (∀ a, a ≠ 135 → a ≠ 136 → I' a = I a) ∧ ∀ j, (j < 22 ∨ 26 < j) → I' 135 j = I 135 j
/-- what is so behind an item -/
def zMo (I' : Nat → Nat → Int) (B : Nat → Int) (n : Nat) (r : Int × (zTo × zTb)) : Prop := (r.1 = 1 ∧ zMd I' B n r.2.1 r.2.2) ∨ (r.1 = 0 ∧ I' 135 26 = (r.2.1.2.1 : Int))
theorem zMFr_r {I : Nat → Nat → Int} : zMFr I I := ⟨fun _ _ _ => rfl, fun _ _ => rfl⟩
theorem zMFr_t {I I1 I2 : Nat → Nat → Int} (h1 : zMFr I I1) (h2 : zMFr I1 I2) : zMFr I I2 := ⟨fun a ha hb => (h2.1 a ha hb).trans (h1.1 a ha hb), fun j hj => (h2.2 j hj).trans (h1.2 j hj)⟩
theorem zMFr_26 {I : Nat → Nat → Int} {v : Int} : zMFr I (zwI I 135 26 v) := ⟨fun a ha _ => zwI_row ha, fun j hj => zwI_nej (by omega)⟩
theorem zMFr_136 {I : Nat → Nat → Int} {j : Nat} {v : Int} : zMFr I (zwI I 136 j v) := ⟨fun a _ ha => zwI_row ha, fun j hj => zwI_ne (by omega)⟩
theorem zNN_eq {v N x : Int} (h : zNN v N) (hx : x ≤ 9999) : (N = x ↔ v = x) := by
  unfold zNN at h
  omega
theorem zNN_in {v N a b : Int} (h : zNN v N) (hb : b ≤ 9999) : (a ≤ N ∧ N ≤ b) ↔ (a ≤ v ∧ v ≤ b) := by
  unfold zNN at h
  omega
section
variable {X : zX} {C : zC} {d n : Nat} {L : zLt} {T : zTb} {I : Nat → Nat → Int} {B : Nat → Int} {t : zTo}
theorem zMd_tab {J : Nat → Nat → Int} {T' : zTb} (h : zMd I B n t T) (h5 : J 135 = I 135) (h0 : J 140 = I 140) (hT : zTM J 136 T') : zMd J B n t T' := by
  obtain ⟨g1, g2, g3, g4, g5, g6, g7, g8, g9⟩ := h
  exact ⟨by rw [h0]; exact g1, by rw [h5]; exact g2, by rw [h5]; exact g3, by rw [h5]; exact g4, by rw [h5]; exact g5, by rw [h5]; exact g6, by rw [h5, h0]; exact g7, g8, hT⟩
theorem zMd_next (hL : zLay L) (hB : zBy B n) (h : zMd I B n t T) (h4 : t.1 ≠ 4) : ∃ I', zcal X zP (d + 2) 217 [.inr (.inr (.inl 135))] (I, L) = some (none, (I', L)) ∧ zMd I' B n (znx1 B n t) T ∧ zMFr I I' := by
  obtain ⟨g1, g2, g3, g4, g5, g6, g7, g8, g9⟩ := h
  obtain ⟨I', q1, q2, q3, q4, q5, q6, q7⟩ := zq_M_next (X := X) (d := d) hL (zBy_cg g1 hB) g2 g8.2 (g6 h4)
  have q0 : I' 140 = I 140 := q2 140 (by omega)
  rw [ztk_cg g1 g8.2] at q4 q5 q6 q7
  exact ⟨I', q1, ⟨by rw [q0]; exact g1, (q3 6 (by omega)).trans g2, (q3 26 (by omega)).trans g3, q4, q5, q6, by rw [q0]; exact q7, (ztk_in g8.2).2, zTM_row (q2 136 (by omega)) g9⟩, fun a ha _ => q2 a ha, fun j hj => q3 j (by omega)⟩
theorem zMd_wrong (hL : zLay L) (h : zMd I B n t T) : zcal X zP (d + 1) 218 [.inr (.inr (.inl 135))] (I, L) = some (none, (zwI I 135 26 (t.2.1 : Int), L)) := by
  have hm1 : ((-1 : Int) < 0) = True := eq_true (by decide)
  refine ((zcal_go zp_M_wrongHere rfl).trans zb_M_wrongHere_0).trans ?_
  simp only [if_true, if_false, Option.bind_some, Option.bind, Option.toList, List.cons_append, List.nil_append, zite0, zite1, zite01, znn, ite_not, true_or, or_true, true_and, and_true, zn10, zn00, zk_135 hL, zr_135_0 hL, z6_0 hL, z6_1 hL, z6_2 hL, z6_3 hL, z6_4 hL, h.2.2.1, hm1, h.2.2.2.2.1, zw_I]
theorem zMd_word (hL : zLay L) (hC : zXC X) (h : zMd I B n t T) {x : Nat} (h4 : 4 ≤ x) (h18 : x ≤ 18) : zcal X zP (d + 1) 219 [.inr (.inr (.inl 135)), .inr (.inl (zcod x))] (I, L) = some (some (.inl (if zWd X B t x then 1 else 0)), (I, L)) := by
  obtain ⟨g1, g2, g3, g4, g5, g6, g7, g8, g9⟩ := h
  obtain ⟨hc1, hc2⟩ := hC x h4 h18
  refine ((zcal_go zp_M_isWord rfl).trans zb_M_isWord_0).trans ?_
  by_cases c1 : t.1 = 1
  · obtain ⟨k1, k2⟩ := g7.1 c1
    have key := zwv_cw (B := I 140) (f := (X x).2) (st := t.2.1) (X x).1 (t.2.2.1 - t.2.1) hc1 (by rw [hc2]; exact zcod_le) k2
    rw [hc2, ← k1] at key
    by_cases c2 : I 135 25 = zcod x
    · obtain ⟨e1, e2⟩ := key.1 c2
      have hw : zWd X B t x := zIw_cg g1 g8.2 ⟨c1, by omega, e2⟩
      rw [if_pos hw]
      simp only [if_true, if_false, Option.bind_some, Option.bind, Option.toList, List.cons_append, List.nil_append, zite0, zite1, zite01, znn, ite_not, true_or, or_true, true_and, and_true, zn10, zn00, zk_135 hL, zr_135_0 hL, z6_0 hL, z6_1 hL, z6_2 hL, z6_3 hL, z6_4 hL, g4, eq_true c1, zcmp_eq0, eq_true c2]
    · have hw : ¬ zWd X B t x := fun hw => c2 (key.2 (by
        obtain ⟨w1, w2, w3⟩ := zIw_cg (fun j hj => (g1 j hj).symm) g8.2 hw
        exact ⟨by omega, w3⟩))
      rw [if_neg hw]
      simp only [if_true, if_false, Option.bind_some, Option.bind, Option.toList, List.cons_append, List.nil_append, zite0, zite1, zite01, znn, ite_not, true_or, or_true, true_and, and_true, zn10, zn00, zk_135 hL, zr_135_0 hL, z6_0 hL, z6_1 hL, z6_2 hL, z6_3 hL, z6_4 hL, g4, eq_true c1, zcmp_eq0, eq_false c2]
  · have hw : ¬ zWd X B t x := fun hw => c1 hw.1
    rw [if_neg hw]
    simp only [if_true, if_false, Option.bind_some, Option.bind, Option.toList, List.cons_append, List.nil_append, zite0, zite1, zite01, znn, ite_not, true_or, or_true, true_and, and_true, zn10, zn00, zk_135 hL, zr_135_0 hL, z6_0 hL, z6_1 hL, z6_2 hL, z6_3 hL, z6_4 hL, g4, eq_false c1]
theorem zMd_numY (hL : zLay L) (hB : zBy B n) (h : zMd I B n t T) {a b : Int} (hb : b ≤ 9999) (hy : zNm t a b) : ∃ I', zcal X zP (d + 3) 221 [.inr (.inr (.inl 135)), .inl a, .inl b] (I, L) = some (some (.inl t.2.2.2), (I', L)) ∧ zMd I' B n (znx1 B n t) T ∧ zMFr I I' := by
  have h2 : t.1 = 2 := hy.1
  have g7 := h.2.2.2.2.2.2.1.2.1 h2
  have e5 : I 135 25 = t.2.2.2 := (zNN_eq g7 (by have := hy.2.2; omega)).2 rfl
  have e32 : Unit → w32 t.2.2.2 = t.2.2.2 := fun _ => by
    rw [← e5]
    exact zw32 (by unfold zNN at g7; omega) (by unfold zNN at g7; omega)
  obtain ⟨I', q1, q2, q3⟩ := zMd_next (X := X) (d := d) hL hB h (by omega)
  have hw := zq_M_in (X := X) (d := d + 1) (σ := (I, L)) (v := t.2.2.2) (a := a) (b := b)
  rw [if_pos hy.2] at hw
  have e10 : ((1 : Int) = 0) = False := eq_false (by decide)
  refine ⟨I', ?_, q2, q3⟩
  refine ((zcal_go zp_M_numberHere rfl).trans zb_M_numberHere_0).trans ?_
  simp only [if_true, if_false, Option.bind_some, Option.bind, Option.toList, List.cons_append, List.nil_append, zite0, zite1, zite01, znn, ite_not, true_or, or_true, true_and, and_true, zn10, zn00, zk_135 hL, zr_135_0 hL, z6_0 hL, z6_1 hL, z6_2 hL, z6_3 hL, z6_4 hL, h.2.2.2.1, eq_true h2, e5, hw, zb_M_numberHere_25, e10, q1, zb_M_numberHere_38, e32 ()]
theorem zMd_numN (hL : zLay L) (h : zMd I B n t T) {a b : Int} (hb : b ≤ 9999) (hy : ¬ zNm t a b) : zcal X zP (d + 3) 221 [.inr (.inr (.inl 135)), .inl a, .inl b] (I, L) = some (some (.inl a), (zwI I 135 26 (t.2.1 : Int), L)) := by
  have hwr := zMd_wrong (X := X) (d := d + 1) hL h
  by_cases h2 : t.1 = 2
  · have g7 := h.2.2.2.2.2.2.1.2.1 h2
    have hw := zq_M_in (X := X) (d := d + 1) (σ := (I, L)) (v := I 135 25) (a := a) (b := b)
    rw [if_neg (fun hh => hy ⟨h2, (zNN_in g7 hb).1 hh⟩)] at hw
    have e00 : ((0 : Int) = 0) = True := eq_true rfl
    refine ((zcal_go zp_M_numberHere rfl).trans zb_M_numberHere_0).trans ?_
    simp only [if_true, if_false, Option.bind_some, Option.bind, Option.toList, List.cons_append, List.nil_append, zite0, zite1, zite01, znn, ite_not, true_or, or_true, true_and, and_true, zn10, zn00, zk_135 hL, zr_135_0 hL, z6_0 hL, z6_1 hL, z6_2 hL, z6_3 hL, z6_4 hL, h.2.2.2.1, eq_true h2, hw, zb_M_numberHere_25, e00, hwr, zb_M_numberHere_32]
  · refine ((zcal_go zp_M_numberHere rfl).trans zb_M_numberHere_0).trans ?_
    simp only [if_true, if_false, Option.bind_some, Option.bind, Option.toList, List.cons_append, List.nil_append, zite0, zite1, zite01, znn, ite_not, true_or, or_true, true_and, and_true, zn10, zn00, zk_135 hL, zr_135_0 hL, z6_0 hL, z6_1 hL, z6_2 hL, z6_3 hL, z6_4 hL, h.2.2.2.1, eq_false h2, hwr, zb_M_numberHere_32]
end
