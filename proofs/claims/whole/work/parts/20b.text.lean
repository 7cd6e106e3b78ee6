/-! TEXT: the class's step, words and numbers. -/
/-- behind a token, and its number -/
def zrn (B : Nat → Int) (s : Int) : Nat → Nat → Int → Nat × Int
  | 0, j, v => (j, v)
  | m + 1, j, v => if zsb (B j) = s then (if s = 3 then (j + 1, v) else zrn B s m (j + 1) (if s = 2 then zdg B j v else v)) else (j, v)
theorem zrn_in {B : Nat → Int} {s : Int} : ∀ (m j : Nat) (v : Int), j ≤ (zrn B s m j v).1 ∧ (zrn B s m j v).1 ≤ j + m := by
  intro m
  induction m with
  | zero => intro j v; exact ⟨Nat.le_refl _, Nat.le_refl _⟩
  | succ m ih =>
    intro j v
    unfold zrn
    split
    · split
      · show j ≤ j + 1 ∧ j + 1 ≤ j + (m + 1)
        omega
      · have := ih (j + 1) (if s = 2 then zdg B j v else v)
        omega
    · show j ≤ j ∧ j ≤ j + (m + 1)
      omega
/-- the token at a byte: its sort, its start, what is behind it, its number -/
def ztk (B : Nat → Int) (n p : Nat) : Int × (Nat × (Nat × Int)) := (zsa B n (zsk B (n - p) p), (zsk B (n - p) p, zrn B (zsa B n (zsk B (n - p) p)) (n - zsk B (n - p) p) (zsk B (n - p) p) 0))
theorem ztk_in {B : Nat → Int} {n p : Nat} (hp : p ≤ n) : p ≤ (ztk B n p).2.1 ∧ (ztk B n p).2.1 ≤ (ztk B n p).2.2.1 ∧ (ztk B n p).2.2.1 ≤ n := by
  have h1 := zsk_in (B := B) (n - p) p
  have h2 := zrn_in (B := B) (s := zsa B n (zsk B (n - p) p)) (n - zsk B (n - p) p) (zsk B (n - p) p) 0
  show p ≤ zsk B (n - p) p ∧ zsk B (n - p) p ≤ (zrn B (zsa B n (zsk B (n - p) p)) (n - zsk B (n - p) p) (zsk B (n - p) p) 0).1 ∧ (zrn B (zsa B n (zsk B (n - p) p)) (n - zsk B (n - p) p) (zsk B (n - p) p) 0).1 ≤ n
  omega
def zTkn (I : Nat → Nat → Int) (t : Int × (Nat × (Nat × Int))) : Prop := I 123 2 = t.1 ∧ I 123 3 = (t.2.1 : Int) ∧ I 123 4 = (t.2.2.1 : Int) ∧ I 123 5 = t.2.2.2
def zBy (B : Nat → Int) (n : Nat) : Prop := n ≤ 120 ∧ ∀ j, j < n → -128 ≤ B j ∧ B j ≤ 127
section
variable {X : zX} {C : zC} {d n : Nat} {L : zLt} {I : Nat → Nat → Int}
theorem zdg_in {B : Nat → Int} {j : Nat} {v : Int} (hb : 48 ≤ B j) (hv : 0 ≤ v) : 0 ≤ zdg B j v ∧ zdg B j v ≤ 10000 := by
  unfold zdg
  split <;> omega
theorem zs_rn (hL : zLay L) {s : Int} : ∀ (m j : Nat) (v : Int) (I : Nat → Nat → Int), j + m = n → zBy (I 124) n → I 123 1 = (n : Int) → I 123 2 = s → I 123 4 = (j : Int) → I 123 5 = v → (0 ≤ v ∧ v ≤ 10000) → ∃ I', zgo X (zcal X zP (d + 1)) zc_Tape_step 71 [some (.inr (.inr (.inl 123)))] [] (I, L) = some (none, (I', L)) ∧ (∀ a i, (a ≠ 123 ∨ (i ≠ 4 ∧ i ≠ 5)) → I' a i = I a i) ∧ I' 123 4 = ((zrn (I 124) s m j v).1 : Int) ∧ I' 123 5 = (zrn (I 124) s m j v).2 := by
  intro m
  induction m with
  | zero =>
    intro j v I hj hB h1 h2 h4 h5 hv
    have hin : ((j : Int) < (n : Int)) = False := eq_false (by omega)
    refine ⟨I, ?_, fun _ _ _ => rfl, h4, h5⟩
    refine zb_Tape_step_71.trans ?_
    simp only [if_true, if_false, Option.bind_some, Option.bind, Option.toList, List.cons_append, List.nil_append, zite0, zite1, zite01, znn, ite_not, true_or, or_true, true_and, and_true, zn10, zn00, zk_123 hL, h1, h4, hin]
  | succ m ih =>
    intro j v I hj hB h1 h2 h4 h5 hv
    have h120 := hB.1
    have hjm : j < 1000000 := by omega
    have hj2 : j < n := by omega
    have hj3 : j < 120 := by omega
    have hin : ((j : Int) < (n : Int)) = True := eq_true (by omega)
    have hq := zq_sortAt (X := X) (d := d) (I := I) hL h1 hB.1 (i := j)
    rw [show zsa (I 124) n j = zsb (I 124 j) from if_pos hj2] at hq
    by_cases c : zsb (I 124 j) = s
    · by_cases c2 : s = 2
      · have hb := zsb_2 (c.trans c2)
        have e : zrn (I 124) s (m + 1) j v = zrn (I 124) s m (j + 1) (zdg (I 124) j v) := by
          show (if zsb (I 124 j) = s then (if s = 3 then (j + 1, v) else zrn (I 124) s m (j + 1) (if s = 2 then zdg (I 124) j v else v)) else (j, v)) = _
          rw [if_pos c, if_neg (by omega), if_pos c2]
        rw [e]
        have hz := zdg_in (B := I 124) (j := j) (v := v) hb.1 hv.1
        have ew : Unit → w32 (w32 (w32 (v * 10) + I 124 j) - 48) = v * 10 + I 124 j - 48 := fun _ => by
          rw [show w32 (v * 10) = v * 10 from zw32 (by omega) (by omega), show w32 (v * 10 + I 124 j) = v * 10 + I 124 j from zw32 (by omega) (by omega)]
          exact zw32 (by omega) (by omega)
        have ez : (if 10000 < v * 10 + I 124 j - 48 then 10000 else v * 10 + I 124 j - 48) = zdg (I 124) j v := rfl
        have e1 : zwI I 123 5 (zdg (I 124) j v) 123 4 = (j : Int) := by rw [zwI_nej (by omega)]; exact h4
        generalize hI1 : zwI (zwI I 123 5 (zdg (I 124) j v)) 123 4 ((j + 1 : Nat) : Int) = I1
        have r124 : I1 124 = I 124 := by rw [← hI1, zwI_row (by omega), zwI_row (by omega)]
        have r : ∀ a i, (a ≠ 123 ∨ (i ≠ 4 ∧ i ≠ 5)) → I1 a i = I a i := by
          intro a i h
          rw [← hI1, zwI_if, if_neg (by omega), zwI_if, if_neg (by omega)]
        have r2 : I1 123 2 = s := (r 123 2 (by omega)).trans h2
        obtain ⟨I', a1, a2, a3, a4⟩ := ih (j + 1) (zdg (I 124) j v) I1 (by omega) (by rw [r124]; exact hB) ((r 123 1 (by omega)).trans h1) r2 (by rw [← hI1, zwI_eq]) (by rw [← hI1, zwI_nej (by omega), zwI_eq]) hz
        rw [r124] at a3 a4
        have c3 : (s = 3) = False := eq_false (by omega)
        refine ⟨I', ?_, fun a i h => (a2 a i h).trans (r a i h), a3, a4⟩
        refine zb_Tape_step_71.trans ?_
        simp only [if_true, if_false, Option.bind_some, Option.bind, Option.toList, List.cons_append, List.nil_append, zite0, zite1, zite01, znn, ite_not, true_or, or_true, true_and, and_true, zn10, zn00, zk_123 hL, h1, h4, hin, hq, zb_Tape_step_90, h2, eq_true c, eq_true c2, zr_123_0 hL, zg124 hL hj3, Int.toNat_natCast, h5, ew (), ez, zw_I, e1, zw32n hjm, hI1, r2, c3, a1]
      · generalize hI1 : zwI I 123 4 ((j + 1 : Nat) : Int) = I1
        have r124 : I1 124 = I 124 := by rw [← hI1, zwI_row (by omega)]
        have r : ∀ a i, (a ≠ 123 ∨ i ≠ 4) → I1 a i = I a i := by
          intro a i h
          rw [← hI1, zwI_if, if_neg (by omega)]
        have r2 : I1 123 2 = s := (r 123 2 (by omega)).trans h2
        have r4 : I1 123 4 = ((j + 1 : Nat) : Int) := by rw [← hI1, zwI_eq]
        have r5 : I1 123 5 = v := (r 123 5 (by omega)).trans h5
        by_cases c3 : s = 3
        · have e : zrn (I 124) s (m + 1) j v = (j + 1, v) := by
            show (if zsb (I 124 j) = s then (if s = 3 then (j + 1, v) else zrn (I 124) s m (j + 1) (if s = 2 then zdg (I 124) j v else v)) else (j, v)) = _
            rw [if_pos c, if_pos c3]
          rw [e]
          refine ⟨I1, ?_, fun a i h => r a i (by omega), r4, r5⟩
          refine zb_Tape_step_71.trans ?_
          simp only [if_true, if_false, Option.bind_some, Option.bind, Option.toList, List.cons_append, List.nil_append, zite0, zite1, zite01, znn, ite_not, true_or, or_true, true_and, and_true, zn10, zn00, zk_123 hL, h1, h4, hin, hq, zb_Tape_step_90, h2, eq_true c, eq_false c2, zw_I, zw32n hjm, hI1, r2, eq_true c3]
        · have e : zrn (I 124) s (m + 1) j v = zrn (I 124) s m (j + 1) v := by
            show (if zsb (I 124 j) = s then (if s = 3 then (j + 1, v) else zrn (I 124) s m (j + 1) (if s = 2 then zdg (I 124) j v else v)) else (j, v)) = _
            rw [if_pos c, if_neg c3, if_neg c2]
          rw [e]
          obtain ⟨I', a1, a2, a3, a4⟩ := ih (j + 1) v I1 (by omega) (by rw [r124]; exact hB) ((r 123 1 (by omega)).trans h1) r2 r4 r5 hv
          rw [r124] at a3 a4
          refine ⟨I', ?_, fun a i h => (a2 a i h).trans (r a i (by omega)), a3, a4⟩
          refine zb_Tape_step_71.trans ?_
          simp only [if_true, if_false, Option.bind_some, Option.bind, Option.toList, List.cons_append, List.nil_append, zite0, zite1, zite01, znn, ite_not, true_or, or_true, true_and, and_true, zn10, zn00, zk_123 hL, h1, h4, hin, hq, zb_Tape_step_90, h2, eq_true c, eq_false c2, zw_I, zw32n hjm, hI1, r2, eq_false c3, a1]
    · have e : zrn (I 124) s (m + 1) j v = (j, v) := if_neg c
      rw [e]
      refine ⟨I, ?_, fun _ _ _ => rfl, h4, h5⟩
      refine zb_Tape_step_71.trans ?_
      simp only [if_true, if_false, Option.bind_some, Option.bind, Option.toList, List.cons_append, List.nil_append, zite0, zite1, zite01, znn, ite_not, true_or, or_true, true_and, and_true, zn10, zn00, zk_123 hL, h1, h4, hin, hq, zb_Tape_step_90, h2, eq_false c]
theorem zq_step (hL : zLay L) (hB : zBy (I 124) n) (h1 : I 123 1 = (n : Int)) {p : Nat} (hp : p ≤ n) (h4 : I 123 4 = (p : Int)) : ∃ I', zcal X zP (d + 2) 67 [.inr (.inr (.inl 123))] (I, L) = some (none, (I', L)) ∧ (∀ a, a ≠ 123 → I' a = I a) ∧ I' 123 1 = (n : Int) ∧ zTkn I' (ztk (I 124) n p) := by
  generalize hI1 : zwI I 123 3 (p : Int) = I1
  have r124 : I1 124 = I 124 := by rw [← hI1, zwI_row (by omega)]
  obtain ⟨I2, a1, a2, a3, a4, a5, a6, a7, a8⟩ := zs_sk (X := X) (d := d) (n := n) hL hB.1 (n - p) p I1 (by omega) (by rw [← hI1, zwI_nej (by omega)]; exact h1) (by rw [← hI1, zwI_eq])
  rw [r124] at a5 a6 a7
  have hin := zsk_in (B := I 124) (n - p) p
  have s124 : I2 124 = I 124 := (a2 124 (by omega)).trans r124
  obtain ⟨I3, b1, b2, b3, b4⟩ := zs_rn (X := X) (d := d) (n := n) hL (s := zsa (I 124) n (zsk (I 124) (n - p) p)) (n - zsk (I 124) (n - p) p) (zsk (I 124) (n - p) p) 0 I2 (by omega) (by rw [s124]; exact hB) a3 a7 a6 a8 (by decide)
  rw [s124] at b3 b4
  refine ⟨I3, ?_, fun a ha => funext fun i => (b2 a i (by omega)).trans (by rw [a2 a ha, ← hI1, zwI_row ha]), (b2 123 1 (by omega)).trans a3, (b2 123 2 (by omega)).trans a7, (b2 123 3 (by omega)).trans a5, b3, b4⟩
  refine ((zcal_go zp_Tape_step rfl).trans zb_Tape_step_0).trans ?_
  simp only [if_true, if_false, Option.bind_some, Option.bind, Option.toList, List.cons_append, List.nil_append, zite0, zite1, zite01, znn, ite_not, true_or, or_true, true_and, and_true, zn10, zn00, zk_123 hL, h4, zw_I, hI1]
  exact a1.trans b1
end
