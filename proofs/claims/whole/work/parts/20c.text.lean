/-! TEXT: the class's words and numbers. -/
/-- a token is a word -/
abbrev zIw (B : Nat → Int) (t : Int × (Nat × (Nat × Int))) (len : Nat) (f : Nat → Int) : Prop := t.1 = 1 ∧ t.2.2.1 = t.2.1 + len ∧ ∀ i, i < len → B (t.2.1 + i) = f i
section
variable {X : zX} {C : zC} {d n : Nat} {L : zLt} {I : Nat → Nat → Int}
theorem zs_iw (hL : zLay L) (h120 : n ≤ 120) {x : Nat} (hx : 4 ≤ x) (hlen : 0 < (X x).1) {st : Nat} (h3 : I 123 3 = (st : Int)) (hst : st + (X x).1 ≤ n) : ∀ (m i : Nat), i + m = (X x).1 → zgo X C zc_Tape_isWord 28 [some (.inr (.inr (.inl 123))), some (.inr (.inr (.inr x))), some (.inl (i : Int))] [] (I, L) = some (some (.inl (if ∀ j, j < (X x).1 → j < i ∨ I 124 (st + j) = (X x).2 j then 1 else 0)), (I, L)) := by
  have g0 : (4 ≤ x ∧ 0 < (X x).1) = True := eq_true ⟨hx, hlen⟩
  intro m
  induction m with
  | zero =>
    intro i hi
    have hii : ((i : Int) < ((X x).1 : Int)) = False := eq_false (by omega)
    rw [if_pos (fun j h1 => Or.inl (by omega))]
    refine zb_Tape_isWord_28.trans ?_
    simp only [if_true, if_false, Option.bind_some, Option.bind, Option.toList, List.cons_append, List.nil_append, zite0, zite1, zite01, znn, ite_not, true_or, or_true, true_and, and_true, zn10, zn00, g0, hii]
    try rfl
  | succ m ih =>
    intro i hi
    have him : i < 1000000 := by omega
    have hi120 : st + i < 120 := by omega
    have hii : ((i : Int) < ((X x).1 : Int)) = True := eq_true (by omega)
    have g2 : (4 ≤ x ∧ 0 ≤ (i : Int)) = True := eq_true ⟨hx, by omega⟩
    have ew : Unit → w32 ((st : Int) + (i : Int)) = ((st + i : Nat) : Int) := fun _ => (zw32 (x := (st : Int) + (i : Int)) (by omega) (by omega)).trans (by omega)
    have hq := ih (i + 1) (by omega)
    by_cases hb : I 124 (st + i) = (X x).2 i
    · have e : (if ∀ j, j < (X x).1 → j < i ∨ I 124 (st + j) = (X x).2 j then (1 : Int) else 0) = if ∀ j, j < (X x).1 → j < i + 1 ∨ I 124 (st + j) = (X x).2 j then 1 else 0 := by
        by_cases h : ∀ j, j < (X x).1 → j < i + 1 ∨ I 124 (st + j) = (X x).2 j
        · rw [if_pos h, if_pos (fun j h1 => by
            by_cases e : j = i
            · rw [e]; exact Or.inr hb
            · exact (h j h1).imp (fun h2 => by omega) id)]
        · rw [if_neg h, if_neg (fun hh => h (fun j h1 => (hh j h1).imp (fun h2 => by omega) id))]
      rw [e]
      refine zb_Tape_isWord_28.trans ?_
      simp only [if_true, if_false, Option.bind_some, Option.bind, Option.toList, List.cons_append, List.nil_append, zite0, zite1, zite01, znn, ite_not, true_or, or_true, true_and, and_true, zn10, zn00, g0, hii, zk_123 hL, h3, ew (), zr_123_0 hL, zg124 hL hi120, g2, Int.toNat_natCast, eq_true hb, zw32n him, hq]
    · rw [if_neg (fun h => hb ((h i (by omega)).resolve_left (by omega)))]
      refine zb_Tape_isWord_28.trans ?_
      simp only [if_true, if_false, Option.bind_some, Option.bind, Option.toList, List.cons_append, List.nil_append, zite0, zite1, zite01, znn, ite_not, true_or, or_true, true_and, and_true, zn10, zn00, g0, hii, zk_123 hL, h3, ew (), zr_123_0 hL, zg124 hL hi120, g2, Int.toNat_natCast, eq_false hb]
theorem zq_isWord (hL : zLay L) (h120 : n ≤ 120) {x : Nat} (hx : 4 ≤ x) (hlen : 0 < (X x).1) (hl2 : (X x).1 ≤ 100) {t : Int × (Nat × (Nat × Int))} (ht : zTkn I t) (hin : t.2.1 ≤ t.2.2.1 ∧ t.2.2.1 ≤ n) : zcal X zP (d + 1) 66 [.inr (.inr (.inl 123)), .inr (.inr (.inr x))] (I, L) = some (some (.inl (if zIw (I 124) t (X x).1 (X x).2 then 1 else 0)), (I, L)) := by
  obtain ⟨t1, t2, t3, t4⟩ := ht
  have g0 : (4 ≤ x ∧ 0 < (X x).1) = True := eq_true ⟨hx, hlen⟩
  have ew : Unit → w32 ((t.2.2.1 : Int) - (t.2.1 : Int)) = (t.2.2.1 : Int) - (t.2.1 : Int) := fun _ => zw32 (by omega) (by omega)
  by_cases c1 : t.1 = 1
  · by_cases c2 : t.2.2.1 = t.2.1 + (X x).1
    · have c3 : ((t.2.2.1 : Int) - (t.2.1 : Int) = ((X x).1 : Int)) = True := eq_true (by omega)
      have hq := zs_iw (X := X) (C := zcal X zP d) (I := I) hL h120 hx hlen t2 (by omega) (X x).1 0 (by omega)
      have e : (if ∀ j, j < (X x).1 → j < 0 ∨ I 124 (t.2.1 + j) = (X x).2 j then (1 : Int) else 0) = if zIw (I 124) t (X x).1 (X x).2 then 1 else 0 := by
        by_cases h : zIw (I 124) t (X x).1 (X x).2
        · rw [if_pos h, if_pos (fun j h2 => Or.inr (h.2.2 j h2))]
        · rw [if_neg h, if_neg (fun hh => h ⟨c1, c2, fun j hj => (hh j hj).resolve_left (by omega)⟩)]
      rw [e] at hq
      have hq : zgo X (zcal X zP d) zc_Tape_isWord 28 [some (.inr (.inr (.inl 123))), some (.inr (.inr (.inr x))), some (.inl 0)] [] (I, L) = _ := hq
      refine ((zcal_go zp_Tape_isWord rfl).trans zb_Tape_isWord_0).trans ?_
      simp only [if_true, if_false, Option.bind_some, Option.bind, Option.toList, List.cons_append, List.nil_append, zite0, zite1, zite01, znn, ite_not, true_or, or_true, true_and, and_true, zn10, zn00, zk_123 hL, t1, eq_true c1, g0, t2, t3, ew (), c3, hq]
    · have c3 : ((t.2.2.1 : Int) - (t.2.1 : Int) = ((X x).1 : Int)) = False := eq_false (by omega)
      rw [if_neg (fun h => c2 h.2.1)]
      refine ((zcal_go zp_Tape_isWord rfl).trans zb_Tape_isWord_0).trans ?_
      simp only [if_true, if_false, Option.bind_some, Option.bind, Option.toList, List.cons_append, List.nil_append, zite0, zite1, zite01, znn, ite_not, true_or, or_true, true_and, and_true, zn10, zn00, zk_123 hL, t1, eq_true c1, g0, t2, t3, ew (), c3]
  · rw [if_neg (fun h => c1 h.1)]
    refine ((zcal_go zp_Tape_isWord rfl).trans zb_Tape_isWord_0).trans ?_
    simp only [if_true, if_false, Option.bind_some, Option.bind, Option.toList, List.cons_append, List.nil_append, zite0, zite1, zite01, znn, ite_not, true_or, or_true, true_and, and_true, zn10, zn00, zk_123 hL, t1, eq_false c1]
/-- a number that can stand here -/
abbrev zNm (t : Int × (Nat × (Nat × Int))) (a b : Int) : Prop := t.1 = 2 ∧ a ≤ t.2.2.2 ∧ t.2.2.2 ≤ b
theorem zq_takeY (hL : zLay L) (hB : zBy (I 124) n) (h1 : I 123 1 = (n : Int)) {t : Int × (Nat × (Nat × Int))} (ht : zTkn I t) (hin : t.2.2.1 ≤ n) {a b : Int} (hy : zNm t a b) : ∃ I', zcal X zP (d + 3) 65 [.inr (.inr (.inl 123)), .inl a, .inl b] (I, L) = some (some (.inl t.2.2.2), (I', L)) ∧ (∀ a, a ≠ 123 → I' a = I a) ∧ I' 123 1 = (n : Int) ∧ zTkn I' (ztk (I 124) n t.2.2.1) := by
  obtain ⟨t1, t2, t3, t4⟩ := ht
  obtain ⟨I', q1, q2, q3, q4⟩ := zq_step (X := X) (d := d) hL hB h1 hin t3
  have hw := zq_X_within (X := X) (d := d + 1) (σ := (I, L)) (v := t.2.2.2) (a := a) (b := b)
  rw [if_pos hy.2] at hw
  refine ⟨I', ?_, q2, q3, q4⟩
  refine ((zcal_go zp_Tape_takeNumber rfl).trans zb_Tape_takeNumber_0).trans ?_
  simp only [if_true, if_false, Option.bind_some, Option.bind, Option.toList, List.cons_append, List.nil_append, zite0, zite1, zite01, znn, ite_not, true_or, or_true, true_and, and_true, zn10, zn00, zk_123 hL, t1, eq_true hy.1, t4, hw, zb_Tape_takeNumber_17, q1, zb_Tape_takeNumber_31]
theorem zq_takeN (hL : zLay L) {t : Int × (Nat × (Nat × Int))} (ht : zTkn I t) {a b : Int} (hy : ¬ zNm t a b) : zcal X zP (d + 3) 65 [.inr (.inr (.inl 123)), .inl a, .inl b] (I, L) = some (some (.inl (-1)), (I, L)) := by
  obtain ⟨t1, t2, t3, t4⟩ := ht
  by_cases c : t.1 = 2
  · have hw := zq_X_within (X := X) (d := d + 1) (σ := (I, L)) (v := t.2.2.2) (a := a) (b := b)
    rw [if_neg (fun h => hy ⟨c, h⟩)] at hw
    refine ((zcal_go zp_Tape_takeNumber rfl).trans zb_Tape_takeNumber_0).trans ?_
    simp only [if_true, if_false, Option.bind_some, Option.bind, Option.toList, List.cons_append, List.nil_append, zite0, zite1, zite01, znn, ite_not, true_or, or_true, true_and, and_true, zn10, zn00, zk_123 hL, t1, eq_true c, t4, hw, zb_Tape_takeNumber_17]
  · refine ((zcal_go zp_Tape_takeNumber rfl).trans zb_Tape_takeNumber_0).trans ?_
    simp only [if_true, if_false, Option.bind_some, Option.bind, Option.toList, List.cons_append, List.nil_append, zite0, zite1, zite01, znn, ite_not, true_or, or_true, true_and, and_true, zn10, zn00, zk_123 hL, t1, eq_false c]
end
