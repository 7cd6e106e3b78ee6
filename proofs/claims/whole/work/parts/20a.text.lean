/-! TEXT: tokens; the class's step. -/
def zsb (b : Int) : Int := if b < 97 ∨ 122 < b then (if b < 48 ∨ 57 < b then (if b = 59 then 3 else 4) else 2) else 1
def zsa (B : Nat → Int) (n i : Nat) : Int := if i < n then zsb (B i) else 0
/-- behind the spaces -/
def zsk (B : Nat → Int) : Nat → Nat → Nat
  | 0, i => i
  | m + 1, i => if B i = 32 then zsk B m (i + 1) else i
/-- behind the bytes of a sort -/
def zre (B : Nat → Int) (s : Int) : Nat → Nat → Nat
  | 0, i => i
  | m + 1, i => if zsb (B i) = s then zre B s m (i + 1) else i
/-- a number's digits: one that is too great stays so -/
def zdg (B : Nat → Int) (i : Nat) (v : Int) : Int := if 10000 < v * 10 + B i - 48 then 10000 else v * 10 + B i - 48
theorem zsb_ok {b : Int} : 1 ≤ zsb b ∧ zsb b ≤ 4 := by
  unfold zsb
  repeat' split
  all_goals omega
theorem zsb_2 {b : Int} (h : zsb b = 2) : 48 ≤ b ∧ b ≤ 57 := by
  unfold zsb at h
  repeat' split at h
  all_goals omega
theorem zsk_in {B : Nat → Int} : ∀ (m i : Nat), i ≤ zsk B m i ∧ zsk B m i ≤ i + m := by
  intro m
  induction m with
  | zero => intro i; exact ⟨Nat.le_refl _, Nat.le_refl _⟩
  | succ m ih =>
    intro i
    unfold zsk
    split
    · have := ih (i + 1)
      omega
    · omega
theorem zre_in {B : Nat → Int} {s : Int} : ∀ (m i : Nat), i ≤ zre B s m i ∧ zre B s m i ≤ i + m := by
  intro m
  induction m with
  | zero => intro i; exact ⟨Nat.le_refl _, Nat.le_refl _⟩
  | succ m ih =>
    intro i
    unfold zre
    split
    · have := ih (i + 1)
      omega
    · omega
section
variable {X : zX} {C : zC} {d n : Nat} {L : zLt} {I : Nat → Nat → Int}
theorem zg124 (hL : zLay L) {j : Nat} (h : j < 120) : ((L.2.1 124).1 = 4 ∧ 0 ≤ (j : Int) ∧ (j : Int) < ((L.2.1 124).2.1 : Int)) = True := by
  rw [zk_124 hL]
  exact eq_true ⟨rfl, by omega, show (j : Int) < ((120 : Nat) : Int) by omega⟩
theorem zq_sortAt (hL : zLay L) (hn : I 123 1 = (n : Int)) (h120 : n ≤ 120) {i : Nat} : zcal X zP (d + 1) 68 [.inr (.inr (.inl 123)), .inl (i : Int)] (I, L) = some (some (.inl (zsa (I 124) n i)), (I, L)) := by
  have h0 : ((i : Int) < 0) = False := eq_false (by omega)
  by_cases hi : i < n
  · have e : zsa (I 124) n i = zsb (I 124 i) := if_pos hi
    have hin : ((i : Int) < (n : Int)) = True := eq_true (by omega)
    have hi2 : i < 120 := by omega
    rw [e]
    refine ((zcal_go zp_Tape_sortAt rfl).trans zb_Tape_sortAt_0).trans ?_
    simp only [if_true, if_false, Option.bind_some, Option.bind, Option.toList, List.cons_append, List.nil_append, zite0, zite1, zite01, znn, ite_not, true_or, or_true, true_and, and_true, zn10, zn00, zk_123 hL, h0, hn, hin, zr_123_0 hL, zg124 hL hi2, Int.toNat_natCast]
    unfold zsb
    generalize I 124 i = b
    by_cases h1 : b < 97
    · rw [if_pos h1, if_pos (Or.inl h1)]
      by_cases h2 : b < 48
      · rw [if_pos h2, if_pos (Or.inl h2)]
        split <;> rfl
      · rw [if_neg h2]
        by_cases h3 : 57 < b
        · rw [if_pos h3, if_pos (Or.inr h3)]
          split <;> rfl
        · rw [if_neg h3, if_neg (by omega)]
    · rw [if_neg h1]
      by_cases h4 : 122 < b
      · rw [if_pos h4, if_pos (Or.inr h4), if_neg (show ¬ b < 48 by omega), if_pos (show 57 < b by omega), if_pos (show b < 48 ∨ 57 < b by omega)]
        split <;> rfl
      · rw [if_neg h4, if_neg (by omega)]
  · have e : zsa (I 124) n i = 0 := if_neg hi
    have hin : ((i : Int) < (n : Int)) = False := eq_false (by omega)
    rw [e]
    refine ((zcal_go zp_Tape_sortAt rfl).trans zb_Tape_sortAt_0).trans ?_
    simp only [if_true, if_false, Option.bind_some, Option.bind, Option.toList, List.cons_append, List.nil_append, zite0, zite1, zite01, znn, ite_not, true_or, or_true, true_and, and_true, zn10, zn00, zk_123 hL, h0, hn, hin]
theorem zs_sk (hL : zLay L) (h120 : n ≤ 120) : ∀ (m i : Nat) (I : Nat → Nat → Int), i + m = n → I 123 1 = (n : Int) → I 123 3 = (i : Int) → ∃ I', zgo X (zcal X zP (d + 1)) zc_Tape_step 8 [some (.inr (.inr (.inl 123)))] [] (I, L) = zgo X (zcal X zP (d + 1)) zc_Tape_step 71 [some (.inr (.inr (.inl 123)))] [] (I', L) ∧ (∀ a, a ≠ 123 → I' a = I a) ∧ I' 123 1 = (n : Int) ∧ I' 123 0 = I 123 0 ∧ I' 123 3 = (zsk (I 124) m i : Int) ∧ I' 123 4 = (zsk (I 124) m i : Int) ∧ I' 123 2 = zsa (I 124) n (zsk (I 124) m i) ∧ I' 123 5 = 0 := by
  have key : ∀ (i : Nat) (I : Nat → Nat → Int), i ≤ n → I 123 1 = (n : Int) → I 123 3 = (i : Int) → (i < n → ¬ I 124 i = 32) → ∃ I', zgo X (zcal X zP (d + 1)) zc_Tape_step 8 [some (.inr (.inr (.inl 123)))] [] (I, L) = zgo X (zcal X zP (d + 1)) zc_Tape_step 71 [some (.inr (.inr (.inl 123)))] [] (I', L) ∧ (∀ a, a ≠ 123 → I' a = I a) ∧ I' 123 1 = (n : Int) ∧ I' 123 0 = I 123 0 ∧ I' 123 3 = (i : Int) ∧ I' 123 4 = (i : Int) ∧ I' 123 2 = zsa (I 124) n i ∧ I' 123 5 = 0 := by
    intro i I hi h1 h3 hne
    generalize hI1 : zwI I 123 4 (i : Int) = I1
    have r1 : I1 123 1 = (n : Int) := by rw [← hI1, zwI_nej (by omega)]; exact h1
    have r3 : I1 123 3 = (i : Int) := by rw [← hI1, zwI_nej (by omega)]; exact h3
    have r124 : I1 124 = I 124 := by rw [← hI1, zwI_row (by omega)]
    have hq := zq_sortAt (X := X) (d := d) (I := I1) hL r1 h120 (i := i)
    rw [r124] at hq
    refine ⟨zwI (zwI I1 123 2 (zsa (I 124) n i)) 123 5 0, ?_, fun a ha => by rw [zwI_row ha, zwI_row ha, ← hI1, zwI_row ha], ?_, ?_, ?_, ?_, ?_, zwI_eq⟩
    · refine zb_Tape_step_8.trans ?_
      by_cases hin : i < n
      · have hin2 : ((i : Int) < (n : Int)) = True := eq_true (by omega)
        have hi2 : i < 120 := by omega
        simp only [if_true, if_false, Option.bind_some, Option.bind, Option.toList, List.cons_append, List.nil_append, zite0, zite1, zite01, znn, ite_not, true_or, or_true, true_and, and_true, zn10, zn00, zk_123 hL, h1, h3, hin2, zr_123_0 hL, zg124 hL hi2, Int.toNat_natCast, eq_false (hne hin), zw_I, hI1, r3, hq, zb_Tape_step_63]
      · have hin2 : ((i : Int) < (n : Int)) = False := eq_false (by omega)
        simp only [if_true, if_false, Option.bind_some, Option.bind, Option.toList, List.cons_append, List.nil_append, zite0, zite1, zite01, znn, ite_not, true_or, or_true, true_and, and_true, zn10, zn00, zk_123 hL, h1, h3, hin2, zw_I, hI1, r3, hq, zb_Tape_step_63]
    · rw [zwI_nej (by omega), zwI_nej (by omega)]; exact r1
    · rw [zwI_nej (by omega), zwI_nej (by omega), ← hI1, zwI_nej (by omega)]
    · rw [zwI_nej (by omega), zwI_nej (by omega)]; exact r3
    · rw [zwI_nej (by omega), zwI_nej (by omega), ← hI1, zwI_eq]
    · rw [zwI_nej (by omega), zwI_eq]
  intro m
  induction m with
  | zero =>
    intro i I hi h1 h3
    exact key i I (by omega) h1 h3 (fun h => absurd h (by omega))
  | succ m ih =>
    intro i I hi h1 h3
    by_cases hb : I 124 i = 32
    · have him : i < 1000000 := by omega
      have hin2 : ((i : Int) < (n : Int)) = True := eq_true (by omega)
      have hi2 : i < 120 := by omega
      have e : zsk (I 124) (m + 1) i = zsk (I 124) m (i + 1) := if_pos hb
      generalize hI1 : zwI I 123 3 ((i + 1 : Nat) : Int) = I1
      have r124 : I1 124 = I 124 := by rw [← hI1, zwI_row (by omega)]
      obtain ⟨I', a1, a2, a3, a4, a5, a6, a7, a8⟩ := ih (i + 1) I1 (by omega) (by rw [← hI1, zwI_nej (by omega)]; exact h1) (by rw [← hI1, zwI_eq])
      rw [r124] at a5 a6 a7
      rw [e]
      refine ⟨I', ?_, fun a ha => (a2 a ha).trans (by rw [← hI1, zwI_row ha]), a3, a4.trans (by rw [← hI1, zwI_nej (by omega)]), a5, a6, a7, a8⟩
      refine zb_Tape_step_8.trans ?_
      simp only [if_true, if_false, Option.bind_some, Option.bind, Option.toList, List.cons_append, List.nil_append, zite0, zite1, zite01, znn, ite_not, true_or, or_true, true_and, and_true, zn10, zn00, zk_123 hL, h1, h3, hin2, zr_123_0 hL, zg124 hL hi2, Int.toNat_natCast, eq_true hb, zw_I, zw32n him, hI1, a1]
    · have e : zsk (I 124) (m + 1) i = i := if_neg hb
      rw [e]
      exact key i I (by omega) h1 h3 (fun _ => hb)
end
