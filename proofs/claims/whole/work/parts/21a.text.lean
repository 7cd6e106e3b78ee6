/-! TEXT: the reference's bytes and tokens. -/
def zltr (b : Int) : Int := if b < 97 then 0 else if 122 < b then 0 else b - 96
abbrev zLr (b : Int) : Prop := 97 ≤ b ∧ b ≤ 122
def zbt (B : Nat → Int) (n i : Nat) : Int := if i < n then B i else -1
/-- a word's value -/
def zwv (B : Nat → Int) (st : Nat) : Nat → Int
  | 0 => 0
  | l + 1 => if 100000000000000000 < zwv B st l then zwv B st l else zwv B st l * 27 + (B (st + l) - 96)
theorem zsb_1i {b : Int} : zsb b = 1 ↔ (97 ≤ b ∧ b ≤ 122) := by
  unfold zsb
  constructor
  · intro h
    repeat' split at h
    all_goals omega
  · intro h; rw [if_neg (by omega)]
theorem zsb_2i {b : Int} : zsb b = 2 ↔ (48 ≤ b ∧ b ≤ 57) := by
  unfold zsb
  constructor
  · intro h
    repeat' split at h
    all_goals omega
  · intro h; rw [if_pos (by omega), if_neg (by omega)]
theorem zsb_3i {b : Int} : zsb b = 3 ↔ b = 59 := by
  unfold zsb
  constructor
  · intro h
    repeat' split at h
    all_goals omega
  · intro h; rw [if_pos (by omega), if_pos (by omega), if_pos h]
theorem zltr_y {b : Int} (h : zLr b) : zltr b = b - 96 := by
  unfold zltr
  rw [if_neg (by omega), if_neg (by omega)]
theorem zltr_n {b : Int} (h : ¬ zLr b) : zltr b = 0 := by
  unfold zltr
  repeat' split
  all_goals omega
theorem zwv_in {B : Nat → Int} {st : Nat} : ∀ l : Nat, (∀ i, i < l → zLr (B (st + i))) → 0 ≤ zwv B st l ∧ zwv B st l ≤ 2700000000000000026 := by
  intro l
  induction l with
  | zero => intro _; exact ⟨Int.le_refl _, by show (0 : Int) ≤ _; decide⟩
  | succ l ih =>
    intro h
    have h1 := ih (fun i hi => h i (by omega))
    have h2 := h l (by omega)
    unfold zwv
    split
    · exact h1
    · omega
/-- a number's value: the class's, the reference's -/
def zNN (v N : Int) : Prop := (0 ≤ N ∧ N ≤ 9999 ∧ v = N) ∨ (9999 < N ∧ N < 100000 ∧ v = 10000)
theorem zNN_s {B : Nat → Int} {j : Nat} {v N : Int} (hb : 48 ≤ B j ∧ B j ≤ 57) (h : zNN v N) : zNN (zdg B j v) (if 9999 < N then N else N * 10 + B j - 48) := by
  unfold zNN at *
  unfold zdg
  split <;> split <;> omega
section
variable {X : zX} {C : zC} {d n : Nat} {L : zLt} {I : Nat → Nat → Int} {σ : zMem}
theorem zq_M_letter {b : Int} (hb : -128 ≤ b ∧ b ≤ 127) : zcal X zP (d + 1) 214 [.inl b] σ = some (some (.inl (zltr b)), σ) := by
  have ew : Unit → w32 (w32 (b - 97) + 1) = b - 96 := fun _ => by
    rw [show w32 (b - 97) = b - 97 from zw32 (by omega) (by omega)]
    exact (zw32 (by omega) (by omega)).trans (by omega)
  refine ((zcal_go zp_M_letter rfl).trans zb_M_letter_0).trans ?_
  unfold zltr
  by_cases h1 : b < 97
  · simp only [if_true, if_false, Option.bind_some, Option.bind, Option.toList, List.cons_append, List.nil_append, zite0, zite1, zite01, znn, ite_not, true_or, or_true, true_and, and_true, zn10, zn00, eq_true h1]
  · by_cases h2 : 122 < b
    · simp only [if_true, if_false, Option.bind_some, Option.bind, Option.toList, List.cons_append, List.nil_append, zite0, zite1, zite01, znn, ite_not, true_or, or_true, true_and, and_true, zn10, zn00, eq_false h1, eq_true h2]
    · simp only [if_true, if_false, Option.bind_some, Option.bind, Option.toList, List.cons_append, List.nil_append, zite0, zite1, zite01, znn, ite_not, true_or, or_true, true_and, and_true, zn10, zn00, eq_false h1, eq_false h2, ew ()]
theorem zq_M_digit {b : Int} : zcal X zP (d + 1) 215 [.inl b] σ = some (some (.inl (if 48 ≤ b ∧ b ≤ 57 then 1 else 0)), σ) := by
  refine ((zcal_go zp_M_isDigit rfl).trans zb_M_isDigit_0).trans ?_
  by_cases h1 : b < 48
  · rw [if_neg (show ¬ (48 ≤ b ∧ b ≤ 57) by omega)]
    simp only [if_true, if_false, Option.bind_some, Option.bind, Option.toList, List.cons_append, List.nil_append, zite0, zite1, zite01, znn, ite_not, true_or, or_true, true_and, and_true, zn10, zn00, eq_true h1]
  · by_cases h2 : 57 < b
    · rw [if_neg (show ¬ (48 ≤ b ∧ b ≤ 57) by omega)]
      simp only [if_true, if_false, Option.bind_some, Option.bind, Option.toList, List.cons_append, List.nil_append, zite0, zite1, zite01, znn, ite_not, true_or, or_true, true_and, and_true, zn10, zn00, eq_false h1, eq_true h2]
    · rw [if_pos (show 48 ≤ b ∧ b ≤ 57 by omega)]
      simp only [if_true, if_false, Option.bind_some, Option.bind, Option.toList, List.cons_append, List.nil_append, zite0, zite1, zite01, znn, ite_not, true_or, or_true, true_and, and_true, zn10, zn00, eq_false h1, eq_false h2]
theorem zq_M_byte (hL : zLay L) (h6 : I 135 6 = (n : Int)) (h120 : n ≤ 120) {i : Nat} : zcal X zP (d + 1) 216 [.inr (.inr (.inl 135)), .inl (i : Int)] (I, L) = some (some (.inl (zbt (I 140) n i)), (I, L)) := by
  refine ((zcal_go zp_M_byteAt rfl).trans zb_M_byteAt_0).trans ?_
  unfold zbt
  by_cases h : i < n
  · have hi : ((i : Int) < (n : Int)) = True := eq_true (by omega)
    simp only [if_true, if_false, Option.bind_some, Option.bind, Option.toList, List.cons_append, List.nil_append, zite0, zite1, zite01, znn, ite_not, true_or, or_true, true_and, and_true, zn10, zn00, zk_135 hL, zr_135_0 hL, z6_0 hL, z6_1 hL, z6_2 hL, z6_3 hL, z6_4 hL, zr_135_5 hL, h6, hi, zc140 hL (show i < 120 by omega), Int.toNat_natCast, eq_true h]
  · have hi : ((i : Int) < (n : Int)) = False := eq_false (by omega)
    simp only [if_true, if_false, Option.bind_some, Option.bind, Option.toList, List.cons_append, List.nil_append, zite0, zite1, zite01, znn, ite_not, true_or, or_true, true_and, and_true, zn10, zn00, zk_135 hL, zr_135_0 hL, z6_0 hL, z6_1 hL, z6_2 hL, z6_3 hL, z6_4 hL, h6, hi, eq_false h]
theorem zbt_in {B : Nat → Int} (hB : zBy B n) {i : Nat} : -128 ≤ zbt B n i ∧ zbt B n i ≤ 127 := by
  unfold zbt
  split
  · exact hB.2 _ (by assumption)
  · omega
theorem zbt_y {B : Nat → Int} {i : Nat} (h : i < n) : zbt B n i = B i := if_pos h
theorem zbt_n {B : Nat → Int} {i : Nat} (h : ¬ i < n) : zbt B n i = -1 := if_neg h
theorem zm_sk (hL : zLay L) (h120 : n ≤ 120) : ∀ (m i : Nat) (I : Nat → Nat → Int), i + m = n → I 135 6 = (n : Int) → I 135 22 = (i : Int) → ∃ I', zgo X (zcal X zP (d + 1)) zc_M_next 0 [some (.inr (.inr (.inl 135))), none] [] (I, L) = zgo X (zcal X zP (d + 1)) zc_M_next 47 [some (.inr (.inr (.inl 135))), none] [.inl (zbt (I 140) n (zsk (I 140) m i))] (I', L) ∧ (∀ a, a ≠ 135 → I' a = I a) ∧ (∀ j, j ≠ 22 → j ≠ 24 → j ≠ 25 → I' 135 j = I 135 j) ∧ I' 135 22 = (zsk (I 140) m i : Int) ∧ I' 135 24 = (zsk (I 140) m i : Int) ∧ I' 135 25 = 0 := by
  have key : ∀ (i : Nat) (I : Nat → Nat → Int), i ≤ n → I 135 6 = (n : Int) → I 135 22 = (i : Int) → ¬ zbt (I 140) n i = 32 → ∃ I', zgo X (zcal X zP (d + 1)) zc_M_next 0 [some (.inr (.inr (.inl 135))), none] [] (I, L) = zgo X (zcal X zP (d + 1)) zc_M_next 47 [some (.inr (.inr (.inl 135))), none] [.inl (zbt (I 140) n i)] (I', L) ∧ (∀ a, a ≠ 135 → I' a = I a) ∧ (∀ j, j ≠ 22 → j ≠ 24 → j ≠ 25 → I' 135 j = I 135 j) ∧ I' 135 22 = (i : Int) ∧ I' 135 24 = (i : Int) ∧ I' 135 25 = 0 := by
    intro i I hi h6 h22 hne
    generalize hI1 : zwI (zwI I 135 24 (i : Int)) 135 25 0 = I1
    have r22 : I1 135 22 = (i : Int) := by rw [← hI1, zwI_nej (by omega), zwI_nej (by omega)]; exact h22
    have r140 : I1 140 = I 140 := by rw [← hI1, zwI_row (by omega), zwI_row (by omega)]
    have r6 : I1 135 6 = (n : Int) := by rw [← hI1, zwI_nej (by omega), zwI_nej (by omega)]; exact h6
    have hq := zq_M_byte (X := X) (d := d) hL h6 h120 (i := i)
    have hq1 := zq_M_byte (X := X) (d := d) hL r6 h120 (i := i)
    rw [r140] at hq1
    refine ⟨I1, ?_, fun a ha => by rw [← hI1, zwI_row ha, zwI_row ha], fun j j1 j2 j3 => by rw [← hI1, zwI_nej j3, zwI_nej j2], r22, by rw [← hI1, zwI_nej (by omega), zwI_eq], by rw [← hI1, zwI_eq]⟩
    refine zb_M_next_0.trans ?_
    simp only [if_true, if_false, Option.bind_some, Option.bind, Option.toList, List.cons_append, List.nil_append, zite0, zite1, zite01, znn, ite_not, true_or, or_true, true_and, and_true, zn10, zn00, zk_135 hL, zr_135_0 hL, z6_0 hL, z6_1 hL, z6_2 hL, z6_3 hL, z6_4 hL, h22, hq, zb_M_next_8, eq_false hne, zw_I, hI1, r22, hq1]
  intro m
  induction m with
  | zero =>
    intro i I hi h6 h22
    exact key i I (by omega) h6 h22 (by rw [zbt_n (by omega)]; decide)
  | succ m ih =>
    intro i I hi h6 h22
    have e0 : zbt (I 140) n i = I 140 i := zbt_y (by omega)
    by_cases hb : I 140 i = 32
    · have him : i < 1000000 := by omega
      have e : zsk (I 140) (m + 1) i = zsk (I 140) m (i + 1) := if_pos hb
      generalize hI1 : zwI I 135 22 ((i + 1 : Nat) : Int) = I1
      have r140 : I1 140 = I 140 := by rw [← hI1, zwI_row (by omega)]
      have hq := zq_M_byte (X := X) (d := d) hL h6 h120 (i := i)
      rw [e0] at hq
      obtain ⟨I', a1, a2, a3, a4, a5, a6⟩ := ih (i + 1) I1 (by omega) (by rw [← hI1, zwI_nej (by omega)]; exact h6) (by rw [← hI1, zwI_eq])
      rw [r140] at a1 a4 a5
      rw [e]
      refine ⟨I', ?_, fun a ha => (a2 a ha).trans (by rw [← hI1, zwI_row ha]), fun j j1 j2 j3 => (a3 j j1 j2 j3).trans (by rw [← hI1, zwI_nej j1]), a4, a5, a6⟩
      refine zb_M_next_0.trans ?_
      simp only [if_true, if_false, Option.bind_some, Option.bind, Option.toList, List.cons_append, List.nil_append, zite0, zite1, zite01, znn, ite_not, true_or, or_true, true_and, and_true, zn10, zn00, zk_135 hL, zr_135_0 hL, z6_0 hL, z6_1 hL, z6_2 hL, z6_3 hL, z6_4 hL, h22, hq, zb_M_next_8, eq_true hb, zw_I, zw32n him, hI1, a1]
    · have e : zsk (I 140) (m + 1) i = i := if_neg hb
      rw [e]
      exact key i I (by omega) h6 h22 (by rw [e0]; exact hb)
theorem zm_wd (hL : zLay L) {B : Nat → Int} (hB : zBy B n) {st : Nat} {b0 : Int} : ∀ (m l : Nat) (I : Nat → Nat → Int), st + l + m = n → I 140 = B → I 135 6 = (n : Int) → I 135 22 = ((st + l : Nat) : Int) → I 135 25 = zwv B st l → (∀ i, i < l → zLr (B (st + i))) → ∃ I' l', zgo X (zcal X zP (d + 1)) zc_M_next 103 [some (.inr (.inr (.inl 135))), some (.inl b0)] [] (I, L) = some (none, (I', L)) ∧ (∀ a j, (a ≠ 135 ∨ (j ≠ 22 ∧ j ≠ 25)) → I' a j = I a j) ∧ (∀ w, (zrn B 1 m (st + l) w).1 = st + l') ∧ I' 135 22 = ((st + l' : Nat) : Int) ∧ I' 135 25 = zwv B st l' ∧ ∀ i, i < l' → zLr (B (st + i)) := by
  have h120 := hB.1
  intro m
  induction m with
  | zero =>
    intro l I hl h140 h6 h22 h25 hlr
    have hq := zq_M_byte (X := X) (d := d) hL h6 h120 (i := st + l)
    rw [zbt_n (by omega)] at hq
    have hlt := zq_M_letter (X := X) (d := d) (σ := (I, L)) (b := -1) (by decide)
    rw [zltr_n (by decide)] at hlt
    have h00 : ((0 : Int) < 0) = False := eq_false (by decide)
    refine ⟨I, l, ?_, fun _ _ _ => rfl, fun w => rfl, h22, h25, hlr⟩
    refine zb_M_next_103.trans ?_
    simp only [if_true, if_false, Option.bind_some, Option.bind, Option.toList, List.cons_append, List.nil_append, zite0, zite1, zite01, znn, ite_not, true_or, or_true, true_and, and_true, zn10, zn00, zk_135 hL, zr_135_0 hL, z6_0 hL, z6_1 hL, z6_2 hL, z6_3 hL, z6_4 hL, h22, hq, zb_M_next_111, hlt, zb_M_next_114, h00]
  | succ m ih =>
    intro l I hl h140 h6 h22 h25 hlr
    have hq := zq_M_byte (X := X) (d := d) hL h6 h120 (i := st + l)
    rw [zbt_y (by omega), h140] at hq
    have hlt := zq_M_letter (X := X) (d := d) (σ := (I, L)) (hB.2 (st + l) (by omega))
    by_cases c : zLr (B (st + l))
    · have hlr' : ∀ i, i < l + 1 → zLr (B (st + i)) := fun i hi => by
        by_cases e : i = l
        · rw [e]; exact c
        · exact hlr i (by omega)
      have hv := zwv_in l hlr
      rw [zltr_y c] at hlt
      have h0l : (0 < B (st + l) - 96) = True := eq_true (by omega)
      have hsl : st + l < 1000000 := by omega
      generalize hI1 : zwI (zwI I 135 25 (zwv B st (l + 1))) 135 22 ((st + l + 1 : Nat) : Int) = I1
      have r : ∀ a j, (a ≠ 135 ∨ (j ≠ 22 ∧ j ≠ 25)) → I1 a j = I a j := by
        intro a j h
        rw [← hI1, zwI_if, if_neg (by omega), zwI_if, if_neg (by omega)]
      have r22 : zwI I 135 25 (zwv B st (l + 1)) 135 22 = ((st + l : Nat) : Int) := by rw [zwI_nej (by omega)]; exact h22
      obtain ⟨I', l', a1, a2, a3, a4, a5, a6⟩ := ih (l + 1) I1 (by omega) ((funext fun j => r 140 j (by omega)).trans h140) ((r 135 6 (by omega)).trans h6) (by rw [← hI1, zwI_eq]; rfl) (by rw [← hI1, zwI_nej (by omega), zwI_eq]) hlr'
      refine ⟨I', l', ?_, fun a j h => (a2 a j h).trans (r a j h), fun w => ?_, a4, a5, a6⟩
      · by_cases c2 : 100000000000000000 < zwv B st l
        · have ev : zwv B st (l + 1) = zwv B st l := if_pos c2
          rw [ev] at hI1 r22
          refine zb_M_next_103.trans ?_
          simp only [if_true, if_false, Option.bind_some, Option.bind, Option.toList, List.cons_append, List.nil_append, zite0, zite1, zite01, znn, ite_not, true_or, or_true, true_and, and_true, zn10, zn00, zk_135 hL, zr_135_0 hL, z6_0 hL, z6_1 hL, z6_2 hL, z6_3 hL, z6_4 hL, h22, hq, zb_M_next_111, hlt, zb_M_next_114, h0l, h25, zcmp_gt, eq_true c2, zw_I, r22, zw32n hsl, hI1, a1]
        · have ev : zwv B st (l + 1) = zwv B st l * 27 + (B (st + l) - 96) := if_neg c2
          have ew : Unit → w64 (w64 (zwv B st l * 27) + (B (st + l) - 96)) = zwv B st (l + 1) := fun _ => by
            rw [ev]; unfold w64; omega
          refine zb_M_next_103.trans ?_
          simp only [if_true, if_false, Option.bind_some, Option.bind, Option.toList, List.cons_append, List.nil_append, zite0, zite1, zite01, znn, ite_not, true_or, or_true, true_and, and_true, zn10, zn00, zk_135 hL, zr_135_0 hL, z6_0 hL, z6_1 hL, z6_2 hL, z6_3 hL, z6_4 hL, h22, hq, zb_M_next_111, hlt, zb_M_next_114, h0l, h25, zcmp_gt, eq_false c2, zb_M_next_152, zb_M_next_155, ew (), zw_I, r22, zw32n hsl, hI1, a1]
      · show (if zsb (B (st + l)) = 1 then (if (1 : Int) = 3 then (st + l + 1, w) else zrn B 1 m (st + l + 1) (if (1 : Int) = 2 then zdg B (st + l) w else w)) else (st + l, w)).1 = _
        rw [if_pos (zsb_1i.2 c), if_neg (by decide)]
        exact a3 _
    · rw [zltr_n c] at hlt
      have h00 : ((0 : Int) < 0) = False := eq_false (by decide)
      refine ⟨I, l, ?_, fun _ _ _ => rfl, fun w => ?_, h22, h25, hlr⟩
      · refine zb_M_next_103.trans ?_
        simp only [if_true, if_false, Option.bind_some, Option.bind, Option.toList, List.cons_append, List.nil_append, zite0, zite1, zite01, znn, ite_not, true_or, or_true, true_and, and_true, zn10, zn00, zk_135 hL, zr_135_0 hL, z6_0 hL, z6_1 hL, z6_2 hL, z6_3 hL, z6_4 hL, h22, hq, zb_M_next_111, hlt, zb_M_next_114, h00]
      · show (if zsb (B (st + l)) = 1 then (if (1 : Int) = 3 then (st + l + 1, w) else zrn B 1 m (st + l + 1) (if (1 : Int) = 2 then zdg B (st + l) w else w)) else (st + l, w)).1 = _
        rw [if_neg (fun h => c (zsb_1i.1 h))]
theorem zm_nb (hL : zLay L) {B : Nat → Int} (hB : zBy B n) {b0 : Int} : ∀ (m j : Nat) (v N : Int) (I : Nat → Nat → Int), j + m = n → I 140 = B → I 135 6 = (n : Int) → I 135 22 = (j : Int) → I 135 25 = N → zNN v N → ∃ I' N', zgo X (zcal X zP (d + 1)) zc_M_next 185 [some (.inr (.inr (.inl 135))), some (.inl b0)] [] (I, L) = some (none, (I', L)) ∧ (∀ a j, (a ≠ 135 ∨ (j ≠ 22 ∧ j ≠ 25)) → I' a j = I a j) ∧ I' 135 22 = ((zrn B 2 m j v).1 : Int) ∧ I' 135 25 = N' ∧ zNN (zrn B 2 m j v).2 N' := by
  have h120 := hB.1
  have e10 : ((1 : Int) = 0) = False := eq_false (by decide)
  have e00 : ((0 : Int) = 0) = True := eq_true rfl
  intro m
  induction m with
  | zero =>
    intro j v N I hj h140 h6 h22 h25 hn
    have hq := zq_M_byte (X := X) (d := d) hL h6 h120 (i := j)
    rw [zbt_n (by omega)] at hq
    have hdg := zq_M_digit (X := X) (d := d) (σ := (I, L)) (b := -1)
    rw [if_neg (by decide)] at hdg
    refine ⟨I, N, ?_, fun _ _ _ => rfl, h22, h25, hn⟩
    refine zb_M_next_185.trans ?_
    simp only [if_true, if_false, Option.bind_some, Option.bind, Option.toList, List.cons_append, List.nil_append, zite0, zite1, zite01, znn, ite_not, true_or, or_true, true_and, and_true, zn10, zn00, zk_135 hL, zr_135_0 hL, z6_0 hL, z6_1 hL, z6_2 hL, z6_3 hL, z6_4 hL, h22, hq, zb_M_next_193, hdg, zb_M_next_196, e00]
  | succ m ih =>
    intro j v N I hj h140 h6 h22 h25 hn
    have hq := zq_M_byte (X := X) (d := d) hL h6 h120 (i := j)
    rw [zbt_y (by omega), h140] at hq
    have hdg := zq_M_digit (X := X) (d := d) (σ := (I, L)) (b := B j)
    by_cases c : 48 ≤ B j ∧ B j ≤ 57
    · rw [if_pos c] at hdg
      have hjm : j < 1000000 := by omega
      have hN : 0 ≤ N ∧ N < 100000 := by unfold zNN at hn; omega
      have hn2 := zNN_s c hn
      generalize hN1 : (if 9999 < N then N else N * 10 + B j - 48) = N1 at hn2
      generalize hI1 : zwI (zwI I 135 25 N1) 135 22 ((j + 1 : Nat) : Int) = I1
      have r : ∀ a j, (a ≠ 135 ∨ (j ≠ 22 ∧ j ≠ 25)) → I1 a j = I a j := by
        intro a j h
        rw [← hI1, zwI_if, if_neg (by omega), zwI_if, if_neg (by omega)]
      have r22 : zwI I 135 25 N1 135 22 = (j : Int) := by rw [zwI_nej (by omega)]; exact h22
      obtain ⟨I', N', a1, a2, a3, a4, a5⟩ := ih (j + 1) (zdg B j v) N1 I1 (by omega) ((funext fun j => r 140 j (by omega)).trans h140) ((r 135 6 (by omega)).trans h6) (by rw [← hI1, zwI_eq]) (by rw [← hI1, zwI_nej (by omega), zwI_eq]) hn2
      have e : zrn B 2 (m + 1) j v = zrn B 2 m (j + 1) (zdg B j v) := by
        show (if zsb (B j) = 2 then (if (2 : Int) = 3 then (j + 1, v) else zrn B 2 m (j + 1) (if (2 : Int) = 2 then zdg B j v else v)) else (j, v)) = _
        rw [if_pos (zsb_2i.2 c), if_neg (by decide), if_pos rfl]
      rw [e]
      refine ⟨I', N', ?_, fun a j h => (a2 a j h).trans (r a j h), a3, a4, a5⟩
      by_cases c2 : 9999 < N
      · rw [if_pos c2] at hN1
        subst hN1
        refine zb_M_next_185.trans ?_
        simp only [if_true, if_false, Option.bind_some, Option.bind, Option.toList, List.cons_append, List.nil_append, zite0, zite1, zite01, znn, ite_not, true_or, or_true, true_and, and_true, zn10, zn00, zk_135 hL, zr_135_0 hL, z6_0 hL, z6_1 hL, z6_2 hL, z6_3 hL, z6_4 hL, h22, hq, zb_M_next_193, hdg, zb_M_next_196, e10, h25, zcmp_gt, eq_true c2, zw_I, r22, zw32n hjm, hI1, a1]
      · rw [if_neg c2] at hN1
        have ew : Unit → w64 (w64 (w64 (N * 10) + B j) - 48) = N1 := fun _ => by
          rw [← hN1]; unfold w64; omega
        refine zb_M_next_185.trans ?_
        simp only [if_true, if_false, Option.bind_some, Option.bind, Option.toList, List.cons_append, List.nil_append, zite0, zite1, zite01, znn, ite_not, true_or, or_true, true_and, and_true, zn10, zn00, zk_135 hL, zr_135_0 hL, z6_0 hL, z6_1 hL, z6_2 hL, z6_3 hL, z6_4 hL, h22, hq, zb_M_next_193, hdg, zb_M_next_196, e10, h25, zcmp_gt, eq_false c2, zb_M_next_234, ew (), zw_I, r22, zw32n hjm, hI1, a1]
    · rw [if_neg c] at hdg
      have e : zrn B 2 (m + 1) j v = (j, v) := by
        show (if zsb (B j) = 2 then (if (2 : Int) = 3 then (j + 1, v) else zrn B 2 m (j + 1) (if (2 : Int) = 2 then zdg B j v else v)) else (j, v)) = _
        rw [if_neg (fun h => c (zsb_2i.1 h))]
      rw [e]
      refine ⟨I, N, ?_, fun _ _ _ => rfl, h22, h25, hn⟩
      refine zb_M_next_185.trans ?_
      simp only [if_true, if_false, Option.bind_some, Option.bind, Option.toList, List.cons_append, List.nil_append, zite0, zite1, zite01, znn, ite_not, true_or, or_true, true_and, and_true, zn10, zn00, zk_135 hL, zr_135_0 hL, z6_0 hL, z6_1 hL, z6_2 hL, z6_3 hL, z6_4 hL, h22, hq, zb_M_next_193, hdg, zb_M_next_196, e00]
end
