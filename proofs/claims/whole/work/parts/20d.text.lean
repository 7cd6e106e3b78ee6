/-! TEXT: the class's items: passes, pea, eyes. -/
abbrev zTo : Type := Int × (Nat × (Nat × Int))
/-- the next token -/
def znx1 (B : Nat → Int) (n : Nat) (t : zTo) : zTo := ztk B n t.2.2.1
/-- a pass is read: whether, and what is so then -/
def zrdp (B : Nat → Int) (n : Nat) (T : zTb) (t : zTo) (k : Int) : Int × (zTo × zTb) :=
  if T.2.1 < 14 then
    (if zNm (znx1 B n t) 0 (T.1 0 - 1) then
      (if (znx1 B n (znx1 B n t)).1 = 2 ∧ (znx1 B n (znx1 B n t)).2.2.2 = (znx1 B n t).2.2.2 then (0, (znx1 B n (znx1 B n t), T)) else
        (if zNm (znx1 B n (znx1 B n t)) 0 (T.1 0 - 1) then (1, (znx1 B n (znx1 B n (znx1 B n t)), zTadd T k (znx1 B n t).2.2.2 (znx1 B n (znx1 B n t)).2.2.2)) else (0, (znx1 B n (znx1 B n t), T))))
      else (0, (znx1 B n t, T)))
    else (0, (t, T))
theorem zsk_cg {B B' : Nat → Int} {n : Nat} (h : ∀ j, j < n → B j = B' j) : ∀ (m i : Nat), i + m ≤ n → zsk B m i = zsk B' m i := by
  intro m
  induction m with
  | zero => intro i _; rfl
  | succ m ih =>
    intro i hi
    unfold zsk
    rw [h i (by omega), ih (i + 1) (by omega)]
theorem zrn_cg {B B' : Nat → Int} {n : Nat} {s : Int} (h : ∀ j, j < n → B j = B' j) : ∀ (m i : Nat) (v : Int), i + m ≤ n → zrn B s m i v = zrn B' s m i v := by
  intro m
  induction m with
  | zero => intro i v _; rfl
  | succ m ih =>
    intro i v hi
    unfold zrn zdg
    rw [h i (by omega), ih (i + 1) _ (by omega)]
theorem zsa_cg {B B' : Nat → Int} {n i : Nat} (h : ∀ j, j < n → B j = B' j) : zsa B n i = zsa B' n i := by
  unfold zsa
  by_cases c : i < n
  · rw [if_pos c, if_pos c, h i c]
  · rw [if_neg c, if_neg c]
theorem ztk_cg {B B' : Nat → Int} {n p : Nat} (h : ∀ j, j < n → B j = B' j) (hp : p ≤ n) : ztk B n p = ztk B' n p := by
  have h1 := zsk_in (B := B') (n - p) p
  unfold ztk
  rw [zsk_cg h (n - p) p (by omega), zsa_cg h, zrn_cg h _ _ _ (by omega)]
theorem zIw_cg {B B' : Nat → Int} {n : Nat} {t : zTo} {len : Nat} {f : Nat → Int} (h : ∀ j, j < n → B j = B' j) (ht : t.2.2.1 ≤ n) (hh : zIw B t len f) : zIw B' t len f :=
  ⟨hh.1, hh.2.1, fun i hi => (h _ (by have := hh.2.1; omega)).symm.trans (hh.2.2 i hi)⟩
theorem zBy_cg {B B' : Nat → Int} {n : Nat} (h : ∀ j, j < n → B j = B' j) (hB : zBy B' n) : zBy B n := ⟨hB.1, fun j hj => by rw [h j hj]; exact hB.2 j hj⟩
def zRdr (I : Nat → Nat → Int) (B : Nat → Int) (n : Nat) (t : zTo) (T : zTb) : Prop := (∀ j, j < n → I 124 j = B j) ∧ I 123 1 = (n : Int) ∧ zTkn I t ∧ (t.2.1 ≤ t.2.2.1 ∧ t.2.2.1 ≤ n) ∧ zTC I 56 T
def zRFr (I I' : Nat → Nat → Int) : Prop := ∀ a, (a < 56 ∨ 83 ≤ a) → a ≠ 123 → I' a = I a
section
variable {X : zX} {C : zC} {d n nn : Nat} {L : zLt} {T : zTb} {I : Nat → Nat → Int} {B : Nat → Int} {t : zTo}
theorem zRdr_tab {J : Nat → Nat → Int} {T' : zTb} (h : zRdr I B n t T) (hJ : zRFr I J) (h2 : J 123 = I 123) (hT : zTC J 56 T') : zRdr J B n t T' := by
  obtain ⟨g1, g2, ⟨g3, g4, g5, g6⟩, g7, g8⟩ := h
  exact ⟨by rw [hJ 124 (by omega) (by omega)]; exact g1, by rw [h2]; exact g2, ⟨by rw [h2]; exact g3, by rw [h2]; exact g4, by rw [h2]; exact g5, by rw [h2]; exact g6⟩, g7, hT⟩
theorem zRdr_next (hL : zLay L) (hB : zBy B n) (h14 : T.2.1 ≤ 14) (h : zRdr I B n t T) : ∃ I', zcal X zP (d + 2) 67 [.inr (.inr (.inl 123))] (I, L) = some (none, (I', L)) ∧ zRdr I' B n (znx1 B n t) T ∧ zRFr I I' := by
  obtain ⟨g1, g2, g3, g4, g5⟩ := h
  obtain ⟨I', q1, q2, q3, q4⟩ := zq_step (X := X) (d := d) hL (zBy_cg g1 hB) g2 g4.2 g3.2.2.1
  rw [ztk_cg g1 g4.2] at q4
  refine ⟨I', q1, ⟨by rw [q2 124 (by omega)]; exact g1, q3, q4, (ztk_in g4.2).2, zTC_row h14 (fun a _ ha => q2 a (by omega)) g5⟩, fun a _ ha => q2 a ha⟩
theorem zRdr_takeY (hL : zLay L) (hB : zBy B n) (h14 : T.2.1 ≤ 14) (h : zRdr I B n t T) {a b : Int} (hy : zNm t a b) : ∃ I', zcal X zP (d + 3) 65 [.inr (.inr (.inl 123)), .inl a, .inl b] (I, L) = some (some (.inl t.2.2.2), (I', L)) ∧ zRdr I' B n (znx1 B n t) T ∧ zRFr I I' := by
  obtain ⟨g1, g2, g3, g4, g5⟩ := h
  obtain ⟨I', q1, q2, q3, q4⟩ := zq_takeY (X := X) (d := d) hL (zBy_cg g1 hB) g2 g3 g4.2 hy
  rw [ztk_cg g1 g4.2] at q4
  refine ⟨I', q1, ⟨by rw [q2 124 (by omega)]; exact g1, q3, q4, (ztk_in g4.2).2, zTC_row h14 (fun a _ ha => q2 a (by omega)) g5⟩, fun a _ ha => q2 a ha⟩
theorem zRFr_t {I1 I2 : Nat → Nat → Int} (h1 : zRFr I I1) (h2 : zRFr I1 I2) : zRFr I I2 := fun a ha hb => (h2 a ha hb).trans (h1 a ha hb)
theorem zq_readPass (hL : zLay L) (hB : zBy B n) (ho : zTOK nn T) (h : zRdr I B n t T) {k : Int} : ∃ I', zcal X zP (d + 4) 60 [.inr (.inr (.inl 123)), .inr (.inr (.inl 56)), .inl k] (I, L) = some (some (.inl (zrdp B n T t k).1), (I', L)) ∧ zRdr I' B n (zrdp B n T t k).2.1 (zrdp B n T t k).2.2 ∧ zRFr I I' := by
  have h14 := ho.2.2.2.2.1
  have h36 := ho.1
  have e2 : I 56 2 = (T.2.1 : Int) := h.2.2.2.2.2.2.1
  have hw : Unit → w32 (T.1 0 - 1) = T.1 0 - 1 := fun _ => zw32 (by omega) (by omega)
  unfold zrdp
  by_cases c1 : T.2.1 < 14
  · have c1' : ((T.2.1 : Int) < 14) = True := eq_true (by omega)
    rw [if_pos c1]
    obtain ⟨I1, a1, a2, a3⟩ := zRdr_next (X := X) (d := d + 1) hL hB h14 h
    have z1 : I1 56 0 = T.1 0 := a2.2.2.2.2.1
    generalize znx1 B n t = t1 at *
    by_cases c2 : zNm t1 0 (T.1 0 - 1)
    · rw [if_pos c2]
      have hn1 : (t1.2.2.2 < 0) = False := eq_false (by have := c2.2.1; omega)
      obtain ⟨I2, b1, b2, b3⟩ := zRdr_takeY (X := X) (d := d) hL hB h14 a2 c2
      have z2 : I2 56 0 = T.1 0 := b2.2.2.2.2.1
      have s2 : I2 123 2 = (znx1 B n t1).1 := b2.2.2.1.1
      have v2 : I2 123 5 = (znx1 B n t1).2.2.2 := b2.2.2.1.2.2.2
      generalize znx1 B n t1 = t2 at *
      by_cases c3 : t2.1 = 2 ∧ t2.2.2.2 = t1.2.2.2
      · rw [if_pos c3]
        refine ⟨I2, ?_, b2, zRFr_t a3 b3⟩
        refine ((zcal_go zp_Tape_readPass rfl).trans zb_Tape_readPass_0).trans ?_
        simp only [if_true, if_false, Option.bind_some, Option.bind, Option.toList, List.cons_append, List.nil_append, zite0, zite1, zite01, znn, ite_not, true_or, or_true, true_and, and_true, zn10, zn00, zk_56 hL, zk_123 hL, e2, c1', a1, zb_Tape_readPass_15, z1, hw (), b1, zb_Tape_readPass_26, hn1, s2, v2, eq_true c3.1, eq_true c3.2]
      · rw [if_neg c3]
        by_cases c4 : zNm t2 0 (T.1 0 - 1)
        · rw [if_pos c4]
          have hn2 : (t2.2.2.2 < 0) = False := eq_false (by have := c4.2.1; omega)
          obtain ⟨I3, d1, d2, d3⟩ := zRdr_takeY (X := X) (d := d) hL hB h14 b2 c4
          have hadd := zq_Table_add (X := X) (d := d + 1) (k := k) (a := t1.2.2.2) (b := t2.2.2.2) (ztabL hL (Or.inr (Or.inr rfl))) d2.2.2.2.2 c1
          have hf : zRFr I3 (zIadd I3 56 T.2.1 k t1.2.2.2 t2.2.2.2) := fun a ha _ => zIadd_row (by omega) (by omega)
          refine ⟨_, ?_, zRdr_tab d2 hf (zIadd_row (by omega) (by omega)) (zTC_add c1 d2.2.2.2.2), zRFr_t a3 (zRFr_t b3 (zRFr_t d3 hf))⟩
          have c5 : ¬ t2.2.2.2 = t1.2.2.2 := fun hh => c3 ⟨c4.1, hh⟩
          refine ((zcal_go zp_Tape_readPass rfl).trans zb_Tape_readPass_0).trans ?_
          simp only [if_true, if_false, Option.bind_some, Option.bind, Option.toList, List.cons_append, List.nil_append, zite0, zite1, zite01, znn, ite_not, true_or, or_true, true_and, and_true, zn10, zn00, zk_56 hL, zk_123 hL, e2, c1', a1, zb_Tape_readPass_15, z1, hw (), b1, zb_Tape_readPass_26, hn1, s2, v2, eq_true c4.1, eq_false c5, z2, d1, zb_Tape_readPass_60, hn2, hadd, zb_Tape_readPass_77]
        · rw [if_neg c4]
          have d1 := zq_takeN (X := X) (d := d) hL b2.2.2.1 c4
          have hm1 : ((-1 : Int) < 0) = True := eq_true (by decide)
          refine ⟨I2, ?_, b2, zRFr_t a3 b3⟩
          by_cases c6 : t2.1 = 2
          · have c5 : ¬ t2.2.2.2 = t1.2.2.2 := fun hh => c3 ⟨c6, hh⟩
            refine ((zcal_go zp_Tape_readPass rfl).trans zb_Tape_readPass_0).trans ?_
            simp only [if_true, if_false, Option.bind_some, Option.bind, Option.toList, List.cons_append, List.nil_append, zite0, zite1, zite01, znn, ite_not, true_or, or_true, true_and, and_true, zn10, zn00, zk_56 hL, zk_123 hL, e2, c1', a1, zb_Tape_readPass_15, z1, hw (), b1, zb_Tape_readPass_26, hn1, s2, v2, eq_true c6, eq_false c5, z2, d1, zb_Tape_readPass_60, hm1]
          · refine ((zcal_go zp_Tape_readPass rfl).trans zb_Tape_readPass_0).trans ?_
            simp only [if_true, if_false, Option.bind_some, Option.bind, Option.toList, List.cons_append, List.nil_append, zite0, zite1, zite01, znn, ite_not, true_or, or_true, true_and, and_true, zn10, zn00, zk_56 hL, zk_123 hL, e2, c1', a1, zb_Tape_readPass_15, z1, hw (), b1, zb_Tape_readPass_26, hn1, s2, v2, eq_false c6, z2, d1, zb_Tape_readPass_60, hm1]
    · rw [if_neg c2]
      have d1 := zq_takeN (X := X) (d := d) hL a2.2.2.1 c2
      have hm1 : ((-1 : Int) < 0) = True := eq_true (by decide)
      refine ⟨I1, ?_, a2, a3⟩
      refine ((zcal_go zp_Tape_readPass rfl).trans zb_Tape_readPass_0).trans ?_
      simp only [if_true, if_false, Option.bind_some, Option.bind, Option.toList, List.cons_append, List.nil_append, zite0, zite1, zite01, znn, ite_not, true_or, or_true, true_and, and_true, zn10, zn00, zk_56 hL, zk_123 hL, e2, c1', a1, zb_Tape_readPass_15, z1, hw (), d1, zb_Tape_readPass_26, hm1]
  · have c1' : ((T.2.1 : Int) < 14) = False := eq_false (by omega)
    rw [if_neg c1]
    refine ⟨I, ?_, h, fun _ _ _ => rfl⟩
    refine ((zcal_go zp_Tape_readPass rfl).trans zb_Tape_readPass_0).trans ?_
    simp only [if_true, if_false, Option.bind_some, Option.bind, Option.toList, List.cons_append, List.nil_append, zite0, zite1, zite01, znn, ite_not, true_or, or_true, true_and, and_true, zn10, zn00, zk_56 hL, zk_123 hL, e2, c1']
end
