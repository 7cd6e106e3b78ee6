/-! CONTRACTS OF CALLS: what a table is when one of its numbers is told anew; cups. -/
theorem zn10 : ((1 : Int) = 0) = False := eq_false (by decide)
theorem zn00 : ((0 : Int) = 0) = True := eq_true rfl
theorem zif1 {c : Prop} [Decidable c] {a b : zV × zSt} (h1 : ∃ z, a.1 = .inl z) (h2 : ∃ z, b.1 = .inl z) : ∃ z, (if c then a else b).1 = .inl z := by
  split
  · exact h1
  · exact h2
theorem zif2 {n : Nat} {c : Prop} [Decidable c] {a b : zV × zSt} (h1 : c → zSOK n a.2) (h2 : ¬ c → zSOK n b.2) : zSOK n (if c then a else b).2 := by
  split
  · next h => exact h1 h
  · next h => exact h2 h
theorem zTset_if {T : zTb} {j w : Nat} {v : Int} : (zTset T j v).1 w = if w = j then v else T.1 w := rfl
theorem zwI_if {I : Nat → Nat → Int} {a j a' j' : Nat} {v : Int} : zwI I a j v a' j' = if a' = a ∧ j' = j then v else I a' j' := rfl
theorem zTC_eye {I : Nat → Nat → Int} {t e k : Nat} {v : Int} {T : zTb} (he : e < 4) (hk : k < 2) (h14 : T.2.1 ≤ 14) (h : zTC I t T) : zTC (zwI I (t + 19 + e) k v) t (zTset T (47 + 2 * e + k) v) := by
  obtain ⟨h1, h2, h3, h4, h5, h6, h7, h8, h9⟩ := h
  refine ⟨?_, ?_, (zwI_ne (by omega)).trans h3, ?_, ?_, fun i hi => ?_, fun q hq => ⟨?_, ?_⟩, fun p q hp hq => ?_, fun j hj => ?_⟩
  · rw [zwI_ne (by omega), zTset_hi (by omega)]; exact h1
  · rw [zwI_ne (by omega), zTset_hi (by omega)]; exact h2
  · rw [zwI_ne (by omega), zTset_hi (by omega)]; exact h4
  · rw [zwI_ne (by omega), zTset_hi (by omega)]; exact h5
  · have hi : i < T.2.1 := hi
    rw [zwI_row (by omega)]; exact h6 i hi
  · rw [zwI_if, zTset_if]
    by_cases c : q = e ∧ k = 0
    · rw [if_pos (by omega), if_pos (by omega)]
    · rw [if_neg (by omega), if_neg (by omega)]; exact (h7 q hq).1
  · rw [zwI_if, zTset_if]
    by_cases c : q = e ∧ k = 1
    · rw [if_pos (by omega), if_pos (by omega)]
    · rw [if_neg (by omega), if_neg (by omega)]; exact (h7 q hq).2
  · rw [zwI_row (by omega), zTset_hi (by omega)]; exact h8 p q hp hq
  · rw [zwI_row (by omega), zTset_hi (by omega)]; exact h9 j hj
theorem zTC_pl {I : Nat → Nat → Int} {t e k : Nat} {v : Int} {T : zTb} (he : e < 4) (hk : k < 4) (h14 : T.2.1 ≤ 14) (h : zTC I t T) : zTC (zwI I (t + 23 + e) k v) t (zTset T (55 + 4 * e + k) v) := by
  obtain ⟨h1, h2, h3, h4, h5, h6, h7, h8, h9⟩ := h
  refine ⟨?_, ?_, (zwI_ne (by omega)).trans h3, ?_, ?_, fun i hi => ?_, fun q hq => ⟨?_, ?_⟩, fun p q hp hq => ?_, fun j hj => ?_⟩
  · rw [zwI_ne (by omega), zTset_hi (by omega)]; exact h1
  · rw [zwI_ne (by omega), zTset_hi (by omega)]; exact h2
  · rw [zwI_ne (by omega), zTset_hi (by omega)]; exact h4
  · rw [zwI_ne (by omega), zTset_hi (by omega)]; exact h5
  · have hi : i < T.2.1 := hi
    rw [zwI_row (by omega)]; exact h6 i hi
  · rw [zwI_row (by omega), zTset_hi (by omega)]; exact (h7 q hq).1
  · rw [zwI_row (by omega), zTset_hi (by omega)]; exact (h7 q hq).2
  · rw [zwI_if, zTset_if]
    by_cases c : p = e ∧ q = k
    · rw [if_pos (by omega), if_pos (by omega)]
    · rw [if_neg (by omega), if_neg (by omega)]; exact h8 p q hp hq
  · rw [zwI_row (by omega), zTset_hi (by omega)]; exact h9 j hj
/-- what keeps a table well, number by number -/
theorem zTOK_set {n j : Nat} {T : zTb} {v : Int} (h0 : j ≠ 0) (h2 : j = 2 → -1 ≤ v ∧ v < T.1 0) (h3 : j = 3 → zint v) (h4 : j = 4 → -(200 * n : Int) ≤ v ∧ v ≤ 200 * n)
    (he : ∀ e, e < 4 → (j = 47 + 2 * e → 0 ≤ v ∧ v ≤ 10) ∧ (j = 48 + 2 * e → 0 ≤ v ∧ v < T.1 0))
    (hp : ∀ p, p < 4 → (j = 55 + 4 * p → 0 ≤ v ∧ v ≤ 10000 + 200 * n) ∧ (j = 56 + 4 * p → 1 ≤ v ∧ v ≤ 99) ∧ (j = 57 + 4 * p → 1 ≤ v ∧ v ≤ 9) ∧ (j = 58 + 4 * p → 0 ≤ v ∧ v ≤ n))
    (hs : ∀ s, s < 10 → j = 71 + s → 0 ≤ v ∧ v ≤ 14) (ho : zTOK n T) : zTOK n (zTset T j v) := by
  obtain ⟨a1, a2, a3, a4, a5, a6, a7, a8, a9⟩ := ho
  have e0 : (zTset T j v).1 0 = T.1 0 := zTset_hi (by omega)
  refine ⟨by rw [e0]; exact a1, ?_, ?_, ?_, a5, fun i hi => by rw [e0]; exact a6 i hi, fun e hq => ?_, fun p hq => ?_, fun s hq => ?_⟩
  · rw [e0]
    by_cases e : j = 2
    · rw [e, zTset_eq]; exact h2 e
    · rw [zTset_hi (by omega)]; exact a2
  · by_cases e : j = 3
    · rw [e, zTset_eq]; exact h3 e
    · rw [zTset_hi (by omega)]; exact a3
  · by_cases e : j = 4
    · rw [e, zTset_eq]; exact h4 e
    · rw [zTset_hi (by omega)]; exact a4
  · have b := a7 e hq
    have c := he e hq
    rw [e0, zTset_if, zTset_if]
    by_cases e1 : 47 + 2 * e = j
    · rw [if_pos e1, if_neg (by omega)]; exact ⟨c.1 e1.symm, b.2⟩
    · by_cases e2 : 48 + 2 * e = j
      · rw [if_neg e1, if_pos e2]; exact ⟨b.1, c.2 e2.symm⟩
      · rw [if_neg e1, if_neg e2]; exact b
  · have b := a8 p hq
    have c := hp p hq
    rw [zTset_if, zTset_if, zTset_if, zTset_if]
    by_cases e1 : 55 + 4 * p = j
    · rw [if_pos e1, if_neg (by omega), if_neg (by omega), if_neg (by omega)]; exact ⟨c.1 e1.symm, b.2⟩
    · by_cases e2 : 56 + 4 * p = j
      · rw [if_neg e1, if_pos e2, if_neg (by omega), if_neg (by omega)]; exact ⟨b.1, c.2.1 e2.symm, b.2.2⟩
      · by_cases e3 : 57 + 4 * p = j
        · rw [if_neg e1, if_neg e2, if_pos e3, if_neg (by omega)]; exact ⟨b.1, b.2.1, c.2.2.1 e3.symm, b.2.2.2⟩
        · by_cases e4 : 58 + 4 * p = j
          · rw [if_neg e1, if_neg e2, if_neg e3, if_pos e4]; exact ⟨b.1, b.2.1, b.2.2.1, c.2.2.2 e4.symm⟩
          · rw [if_neg e1, if_neg e2, if_neg e3, if_neg e4]; exact b
  · rw [zTset_if]
    by_cases e1 : 71 + s = j
    · rw [if_pos e1]; exact hs s hq e1.symm
    · rw [if_neg e1]; exact a9 s hq
theorem zey {L : zLt} {i : Nat} (hL : zLay L) (h : i < 4) : L.1 4 i = 21 + i ∧ L.2.1 (21 + i) = (1, (0, 0)) := (ztabL hL (Or.inl rfl)).2.2.2.2.2.2.2.2.2.2.1 i h
theorem zc4 {L : zLt} (hL : zLay L) {i : Nat} (h : i < 4) : (((L.2.1 4).1 = 5 ∨ (L.2.1 4).1 = 6) ∧ 0 ≤ (i : Int) ∧ (i : Int) < ((L.2.1 4).2.1 : Int)) = True := by
  rw [zk_4 hL]
  exact eq_true ⟨Or.inl rfl, by omega, by show (i : Int) < ((4 : Nat) : Int); omega⟩
section
variable {X : zX} {C : zC} {d n : Nat} {L : zLt} {S : zSt}
def zTcups (T : zTb) (v : Int) : zTb := (fun j => if j = 0 then v else if j = 2 ∨ (48 ≤ j ∧ j < 55 ∧ j % 2 = 0) then (if v ≤ T.1 j then 0 else T.1 j) else T.1 j, T.2)
theorem zTcups_e {T : zTb} {v : Int} {e : Nat} (h : e < 4) : (zTcups T v).1 (48 + 2 * e) = if v ≤ T.1 (48 + 2 * e) then 0 else T.1 (48 + 2 * e) := by
  show (if 48 + 2 * e = 0 then v else _) = _
  rw [if_neg (by omega), if_pos (by omega)]
theorem zTcups_o {T : zTb} {v : Int} {j : Nat} (h0 : j ≠ 0) (h : ¬ (j = 2 ∨ (48 ≤ j ∧ j < 55 ∧ j % 2 = 0))) : (zTcups T v).1 j = T.1 j := by
  show (if j = 0 then v else _) = _
  rw [if_neg h0, if_neg h]
theorem zx_setCups_l (hL : zLay L) {v : Int} : ∀ (m i : Nat) (I : Nat → Nat → Int), i + m = 4 → ∃ I', zgo X C zc_Table_setCups 20 [some (.inr (.inr (.inl 2))), some (.inl v), some (.inl (i : Int))] [] (I, L) = some (none, (I', L)) ∧ (∀ a j, (a < 21 + i ∨ 25 ≤ a ∨ j ≠ 1) → I' a j = I a j) ∧ ∀ e, i ≤ e → e < 4 → I' (21 + e) 1 = if v ≤ I (21 + e) 1 then 0 else I (21 + e) 1 := by
  intro m
  induction m with
  | zero =>
    intro i I hi
    refine ⟨I, ?_, fun a j _ => rfl, fun e h1 h2 => absurd h1 (by omega)⟩
    rw [zb_Table_setCups_20, if_neg (by omega)]
  | succ m ih =>
    intro i I hi
    obtain ⟨l3, l4⟩ := zey hL (show i < 4 by omega)
    rw [zb_Table_setCups_20, if_pos (by omega)]
    simp only [if_true, if_false, Option.bind_some, Option.bind, Option.toList, List.cons_append, List.nil_append, zite0, zite1, zite01, znn, ite_not, true_or, or_true, true_and, and_true, zn10, zn00, zk_2 hL, zr_2_6 hL, zc4 hL (show i < 4 by omega), Int.toNat_natCast, l3, l4, zw_I]
    by_cases hc : I (21 + i) 1 < v
    · obtain ⟨I', q1, q2, q3⟩ := ih (i + 1) I (by omega)
      rw [if_pos hc, zw32n (by omega)]
      refine ⟨I', q1, fun a j h => q2 a j (by omega), fun e h1 h2 => ?_⟩
      by_cases he : e = i
      · rw [he, if_neg (by omega)]; exact q2 _ _ (by omega)
      · exact q3 e (by omega) h2
    · obtain ⟨I', q1, q2, q3⟩ := ih (i + 1) (zwI I (21 + i) 1 0) (by omega)
      rw [if_neg hc, zw32n (by omega)]
      refine ⟨I', q1, fun a j h => (q2 a j (by omega)).trans ?_, fun e h1 h2 => ?_⟩
      · rw [zwI_if, if_neg (by omega)]
      · by_cases he : e = i
        · rw [he, q2 _ _ (by omega), zwI_eq, if_pos (by omega)]
        · rw [q3 e (by omega) h2, zwI_ne (by omega)]
theorem zx_setCups (hL : zLay L) {I : Nat → Nat → Int} {v : Int} : ∃ I', zcal X zP (d + 1) 43 [.inr (.inr (.inl 2)), .inl v] (I, L) = some (none, (I', L)) ∧ I' 2 0 = v ∧ I' 2 1 = (if v ≤ I 2 1 then 0 else I 2 1) ∧ (∀ e, e < 4 → I' (21 + e) 1 = if v ≤ I (21 + e) 1 then 0 else I (21 + e) 1) ∧ ∀ a j, ¬ (a = 2 ∧ j < 2) → ¬ (21 ≤ a ∧ a < 25 ∧ j = 1) → I' a j = I a j := by
  by_cases hc : I 2 1 < v
  · obtain ⟨I', q1, q2, q3⟩ := zx_setCups_l (X := X) (C := zcal X zP d) hL (v := v) 4 0 (zwI I 2 0 v) rfl
    refine ⟨I', ?_, (q2 _ _ (by omega)).trans zwI_eq, ?_, fun e he => ?_, fun a j h1 h2 => ?_⟩
    · refine ((zcal_go zp_Table_setCups rfl).trans zb_Table_setCups_0).trans ?_
      simp only [if_true, if_false, Option.bind_some, Option.bind, Option.toList, List.cons_append, List.nil_append, zite0, zite1, zite01, znn, ite_not, true_or, or_true, true_and, and_true, zn10, zn00, zk_2 hL, zw_I]
      rw [zwI_nej (by omega), if_pos hc]
      exact q1
    · rw [q2 _ _ (by omega), zwI_nej (by omega), if_neg (by omega)]
    · rw [q3 e (by omega) he, zwI_ne (by omega)]
    · rw [q2 a j (by omega), zwI_if, if_neg (by omega)]
  · obtain ⟨I', q1, q2, q3⟩ := zx_setCups_l (X := X) (C := zcal X zP d) hL (v := v) 4 0 (zwI (zwI I 2 0 v) 2 1 0) rfl
    refine ⟨I', ?_, ?_, ?_, fun e he => ?_, fun a j h1 h2 => ?_⟩
    · refine ((zcal_go zp_Table_setCups rfl).trans zb_Table_setCups_0).trans ?_
      simp only [if_true, if_false, Option.bind_some, Option.bind, Option.toList, List.cons_append, List.nil_append, zite0, zite1, zite01, znn, ite_not, true_or, or_true, true_and, and_true, zn10, zn00, zk_2 hL, zw_I]
      rw [zwI_nej (by omega), if_neg hc]
      exact q1
    · rw [q2 _ _ (by omega), zwI_nej (by omega), zwI_eq]
    · rw [q2 _ _ (by omega), zwI_eq, if_pos (by omega)]
    · rw [q3 e (by omega) he, zwI_ne (by omega), zwI_ne (by omega)]
    · rw [q2 a j (by omega), zwI_if, if_neg (by omega), zwI_if, if_neg (by omega)]
def zr_cups (S : zSt) (v : Int) : zV × zSt := if 3 ≤ v ∧ v ≤ 6 then (if 0 < S.1.2.1 then (.inl (-1000005), zSf S 4) else (.inl (S.1.1 0), zS1 S (zTcups S.1 v))) else (.inl (-1000001), zSf S 0)
theorem zx_cups (hL : zLay L) (ho : zSOK n S) {v : Int} : zHX X L (d + 2) 70 [.inl v] S (zr_cups S v) := by
  intro I hr
  have hb := zq_X_within (X := X) (d := d) (σ := (I, L)) (v := v) (a := 3) (b := 6)
  have e2 : I 2 2 = (S.1.2.1 : Int) := hr.1.2.2.1
  unfold zr_cups
  by_cases hp : 3 ≤ v ∧ v ≤ 6
  · rw [if_pos hp] at hb ⊢
    by_cases hk : 0 < S.1.2.1
    · rw [if_pos hk]
      obtain ⟨I', h1, h2, h3⟩ := zX_tellc (X := X) (d := d) (k := 4) (c := -1000005) hL ho (by omega) (by omega) hr
      refine ⟨I', ?_, h2, h3⟩
      refine ((zcal_go zp_X_cups rfl).trans zb_X_cups_0).trans ?_
      simp only [if_true, if_false, Option.bind_some, Option.bind, Option.toList, List.cons_append, List.nil_append, zite0, zite1, zite01, znn, ite_not, true_or, or_true, true_and, and_true, zn10, zn00, zk_1 hL, zr_1_0 hL, zk_2 hL, hb, zb_X_cups_7, zb_X_cups_16, zb_X_cups_33, zb_X_cups_50, e2, eq_true (show (0 : Int) < (S.1.2.1 : Int) by omega), h1]
      try rfl
    · rw [if_neg hk]
      obtain ⟨I', q1, q2, q3, q4, q5⟩ := zx_setCups (X := X) (d := d) hL (I := I) (v := v)
      obtain ⟨h1, h2, h3, h4, h5, h6, h7, h8, h9⟩ := hr.1
      refine ⟨I', ?_, zRX_T ho ⟨q5 _ _ (by omega) (by omega), fun a _ _ => funext fun j => q5 _ _ (by omega) (by omega), q5 _ _ (by omega) (by omega), funext fun j => q5 _ _ (by omega) (by omega), funext fun j => q5 _ _ (by omega) (by omega), fun a _ _ => funext fun j => q5 _ _ (by omega) (by omega)⟩ ?_ hr, fun a ha => funext fun j => q5 _ _ (by omega) (by omega)⟩
      · refine ((zcal_go zp_X_cups rfl).trans zb_X_cups_0).trans ?_
        simp only [if_true, if_false, Option.bind_some, Option.bind, Option.toList, List.cons_append, List.nil_append, zite0, zite1, zite01, znn, ite_not, true_or, or_true, true_and, and_true, zn10, zn00, zk_1 hL, zr_1_0 hL, zk_2 hL, hb, zb_X_cups_7, zb_X_cups_16, zb_X_cups_33, zb_X_cups_50, e2, eq_false (show ¬ (0 : Int) < (S.1.2.1 : Int) by omega), q1, h1]
        try rfl
      · refine ⟨q2, ?_, ?_, ?_, ?_, fun i hi => ?_, fun e he => ⟨?_, ?_⟩, fun p q hp hq => ?_, fun j hj => ?_⟩
        · rw [q3, h2]; rfl
        · rw [q5 _ _ (by omega) (by omega)]; exact h3
        · rw [q5 _ _ (by omega) (by omega), zTcups_o (by omega) (by omega)]; exact h4
        · rw [q5 _ _ (by omega) (by omega), zTcups_o (by omega) (by omega)]; exact h5
        · have hi : i < S.1.2.1 := hi
          exact absurd hi (by omega)
        · rw [q5 _ _ (by omega) (by omega), zTcups_o (by omega) (by omega)]; exact (h7 e he).1
        · rw [zTcups_e he, ← (h7 e he).2]; exact q4 e he
        · rw [q5 _ _ (by omega) (by omega), zTcups_o (by omega) (by omega)]; exact h8 p q hp hq
        · rw [q5 _ _ (by omega) (by omega), zTcups_o (by omega) (by omega)]; exact h9 j hj
  · rw [if_neg hp] at hb ⊢
    obtain ⟨I', h1, h2, h3⟩ := zX_tellc (X := X) (d := d) (k := 0) (c := -1000001) hL ho (by omega) (by omega) hr
    refine ⟨I', ?_, h2, h3⟩
    refine ((zcal_go zp_X_cups rfl).trans zb_X_cups_0).trans ?_
    simp only [if_true, if_false, Option.bind_some, Option.bind, Option.toList, List.cons_append, List.nil_append, zite0, zite1, zite01, znn, ite_not, true_or, or_true, true_and, and_true, zn10, zn00, zk_1 hL, zr_1_0 hL, zk_2 hL, hb, zb_X_cups_7, zb_X_cups_16, zb_X_cups_33, zb_X_cups_50, h1]
theorem zm_cups_l (hL : zLay L) {v w : Int} : ∀ (m i : Nat) (I : Nat → Nat → Int), i + m = 4 → ∃ I', zgo X C zc_M_cups 77 [some (.inr (.inr (.inl 135))), some (.inl v), some (.inl w), some (.inl (i : Int))] [] (I, L) = some (some (.inl w), (I', L)) ∧ (∀ a j, (a ≠ 136 ∨ j < 48 + 2 * i ∨ 55 ≤ j ∨ j % 2 = 1) → I' a j = I a j) ∧ ∀ e, i ≤ e → e < 4 → I' 136 (48 + 2 * e) = if v ≤ I 136 (48 + 2 * e) then 0 else I 136 (48 + 2 * e) := by
  intro m
  induction m with
  | zero =>
    intro i I hi
    refine ⟨I, ?_, fun a j _ => rfl, fun e h1 h2 => absurd h1 (by omega)⟩
    rw [zb_M_cups_77, if_neg (by omega)]
  | succ m ih =>
    intro i I hi
    have e : w32 ((w32 (47 + (w32 (2 * (i : Int))))) + 1) = ((48 + 2 * i : Nat) : Int) := by unfold w32; omega
    rw [zb_M_cups_77, if_pos (by omega)]
    simp only [if_true, if_false, Option.bind_some, Option.bind, Option.toList, List.cons_append, List.nil_append, zite0, zite1, zite01, znn, ite_not, true_or, or_true, true_and, and_true, zn10, zn00, zk_135 hL, zr_135_0 hL, z6_0 hL, z6_1 hL, z6_2 hL, z6_3 hL, z6_4 hL, e, zd136 hL (show 0 ≤ ((48 + 2 * i : Nat) : Int) ∧ ((48 + 2 * i : Nat) : Int) < 96 by omega), Int.toNat_natCast, zw_I]
    by_cases hc : I 136 (48 + 2 * i) < v
    · obtain ⟨I', q1, q2, q3⟩ := ih (i + 1) (zwI I 136 (48 + 2 * i) (I 136 (48 + 2 * i))) (by omega)
      have hw : ∀ a j, zwI I 136 (48 + 2 * i) (I 136 (48 + 2 * i)) a j = I a j := by
        intro a j
        rw [zwI_if]
        split
        · next h => rw [h.1, h.2]
        · rfl
      rw [if_pos hc, zw32n (by omega)]
      refine ⟨I', q1, fun a j h => (q2 a j (by omega)).trans (hw a j), fun e h1 h2 => ?_⟩
      by_cases he : e = i
      · rw [he, if_neg (by omega)]; exact (q2 _ _ (by omega)).trans (hw _ _)
      · rw [q3 e (by omega) h2, hw]
    · obtain ⟨I', q1, q2, q3⟩ := ih (i + 1) (zwI I 136 (48 + 2 * i) 0) (by omega)
      rw [if_neg hc, zw32n (by omega)]
      refine ⟨I', q1, fun a j h => (q2 a j (by omega)).trans ?_, fun e h1 h2 => ?_⟩
      · rw [zwI_if, if_neg (by omega)]
      · by_cases he : e = i
        · rw [he, q2 _ _ (by omega), zwI_eq, if_pos (by omega)]
        · rw [q3 e (by omega) h2, zwI_nej (by omega)]
theorem zm_cups (hL : zLay L) (ho : zSOK n S) {v : Int} : zHM X L (d + 2) 152 [.inl v] S (zr_cups S v) := by
  intro I hr
  have hb := zq_M_in (X := X) (d := d) (σ := (I, L)) (v := v) (a := 3) (b := 6)
  have e2 : I 136 1 = (S.1.2.1 : Int) := hr.1.2.1
  unfold zr_cups
  by_cases hp : 3 ≤ v ∧ v ≤ 6
  · rw [if_pos hp] at hb ⊢
    by_cases hk : 0 < S.1.2.1
    · rw [if_pos hk]
      obtain ⟨I', h1, h2, h3⟩ := zM_findsc (X := X) (d := d) (k := 4) (c := -1000005) (k' := 4) hL ho (by omega) (by omega) (by omega) hr
      refine ⟨I', ?_, h2, h3⟩
      refine ((zcal_go zp_M_cups rfl).trans zb_M_cups_0).trans ?_
      simp only [if_true, if_false, Option.bind_some, Option.bind, Option.toList, List.cons_append, List.nil_append, zite0, zite1, zite01, znn, ite_not, true_or, or_true, true_and, and_true, zn10, zn00, zk_135 hL, zr_135_0 hL, z6_0 hL, z6_1 hL, z6_2 hL, z6_3 hL, z6_4 hL, hb, zb_M_cups_11, zb_M_cups_19, zb_M_cups_34, e2, eq_true (show (0 : Int) < (S.1.2.1 : Int) by omega), h1]
      try rfl
    · rw [if_neg hk]
      obtain ⟨h1, h2, h3⟩ := hr.1
      have key : ∃ I', zcal X zP (d + 2) 152 [.inr (.inr (.inl 135)), .inl v] (I, L) = some (some (.inl (I 136 0)), (I', L)) ∧ I' 136 0 = v ∧ I' 136 2 = (if v ≤ I 136 2 then 0 else I 136 2) ∧ (∀ e, e < 4 → I' 136 (48 + 2 * e) = if v ≤ I 136 (48 + 2 * e) then 0 else I 136 (48 + 2 * e)) ∧ ∀ a j, ¬ (a = 136 ∧ (j = 0 ∨ j = 2 ∨ (48 ≤ j ∧ j < 55 ∧ j % 2 = 0))) → I' a j = I a j := by
        by_cases hc : I 136 2 < v
        · obtain ⟨I', q1, q2, q3⟩ := zm_cups_l (X := X) (C := zcal X zP (d + 1)) hL (v := v) (w := I 136 0) 4 0 (zwI (zwI I 136 0 v) 136 2 (I 136 2)) rfl
          refine ⟨I', ?_, ?_, ?_, fun e he => ?_, fun a j h => ?_⟩
          · refine ((zcal_go zp_M_cups rfl).trans zb_M_cups_0).trans ?_
            have e3 : zwI I 136 0 v 136 2 = I 136 2 := zwI_nej (by omega)
            simp only [if_true, if_false, Option.bind_some, Option.bind, Option.toList, List.cons_append, List.nil_append, zite0, zite1, zite01, znn, ite_not, true_or, or_true, true_and, and_true, zn10, zn00, zk_135 hL, zr_135_0 hL, z6_0 hL, z6_1 hL, z6_2 hL, z6_3 hL, z6_4 hL, hb, zb_M_cups_11, zb_M_cups_19, zb_M_cups_34, e2, eq_false (show ¬ (0 : Int) < (S.1.2.1 : Int) by omega), zw_I, e3, hc]
            exact q1
          · rw [q2 _ _ (by omega), zwI_nej (by omega), zwI_eq]
          · rw [q2 _ _ (by omega), zwI_eq, if_neg (by omega)]
          · rw [q3 e (by omega) he, zwI_nej (by omega), zwI_nej (by omega)]
          · rw [q2 a j (by omega), zwI_if, if_neg (by omega), zwI_if, if_neg (by omega)]
        · obtain ⟨I', q1, q2, q3⟩ := zm_cups_l (X := X) (C := zcal X zP (d + 1)) hL (v := v) (w := I 136 0) 4 0 (zwI (zwI I 136 0 v) 136 2 0) rfl
          refine ⟨I', ?_, ?_, ?_, fun e he => ?_, fun a j h => ?_⟩
          · refine ((zcal_go zp_M_cups rfl).trans zb_M_cups_0).trans ?_
            have e3 : zwI I 136 0 v 136 2 = I 136 2 := zwI_nej (by omega)
            simp only [if_true, if_false, Option.bind_some, Option.bind, Option.toList, List.cons_append, List.nil_append, zite0, zite1, zite01, znn, ite_not, true_or, or_true, true_and, and_true, zn10, zn00, zk_135 hL, zr_135_0 hL, z6_0 hL, z6_1 hL, z6_2 hL, z6_3 hL, z6_4 hL, hb, zb_M_cups_11, zb_M_cups_19, zb_M_cups_34, e2, eq_false (show ¬ (0 : Int) < (S.1.2.1 : Int) by omega), zw_I, e3, hc]
            exact q1
          · rw [q2 _ _ (by omega), zwI_nej (by omega), zwI_eq]
          · rw [q2 _ _ (by omega), zwI_eq, if_pos (by omega)]
          · rw [q3 e (by omega) he, zwI_nej (by omega), zwI_nej (by omega)]
          · rw [q2 a j (by omega), zwI_if, if_neg (by omega), zwI_if, if_neg (by omega)]
      obtain ⟨I', q1, q2, q3, q4, q5⟩ := key
      rw [h1 0 (by omega)] at q1
      refine ⟨I', q1, zRM_T ⟨q5 _ _ (by omega), q5 _ _ (by omega), funext fun j => q5 _ _ (by omega), funext fun j => q5 _ _ (by omega), funext fun j => q5 _ _ (by omega), funext fun j => q5 _ _ (by omega), funext fun j => q5 _ _ (by omega), funext fun j => q5 _ _ (by omega)⟩ ⟨fun j hj => ?_, ?_, fun i hi => ?_⟩ hr, fun a ha => funext fun j => q5 _ _ (by omega)⟩
      · by_cases c0 : j = 0
        · rw [c0, q2]; rfl
        · by_cases c2 : j = 2
          · rw [c2, q3, h1 2 (by omega)]; rfl
          · by_cases c3 : 48 ≤ j ∧ j < 55 ∧ j % 2 = 0
            · obtain ⟨e, rfl⟩ : ∃ e, j = 48 + 2 * e := ⟨(j - 48) / 2, by omega⟩
              rw [q4 e (by omega), zTcups_e (by omega), h1 _ hj]
            · rw [q5 _ _ (by omega), zTcups_o c0 (by omega)]; exact h1 j hj
      · rw [q5 _ _ (by omega)]; exact h2
      · have hi : i < S.1.2.1 := hi
        exact absurd hi (by omega)
  · rw [if_neg hp] at hb ⊢
    obtain ⟨I', h1, h2, h3⟩ := zM_findsc (X := X) (d := d) (k := 0) (c := -1000001) (k' := 0) hL ho (by omega) (by omega) (by omega) hr
    refine ⟨I', ?_, h2, h3⟩
    refine ((zcal_go zp_M_cups rfl).trans zb_M_cups_0).trans ?_
    simp only [if_true, if_false, Option.bind_some, Option.bind, Option.toList, List.cons_append, List.nil_append, zite0, zite1, zite01, znn, ite_not, true_or, or_true, true_and, and_true, zn10, zn00, zk_135 hL, zr_135_0 hL, z6_0 hL, z6_1 hL, z6_2 hL, z6_3 hL, z6_4 hL, hb, zb_M_cups_11, zb_M_cups_19, zb_M_cups_34, h1]
theorem zo_cups (ho : zSOK n S) (hn : n < 100000) {v : Int} : zSOK (n + 1) (zr_cups S v).2 := by
  unfold zr_cups
  split
  · next h =>
    split
    · exact zSOK_f ho (by omega) hn
    · next hk =>
      obtain ⟨⟨a1, a2, a3, a4, a5, a6, a7, a8, a9⟩, h2⟩ := zSOK_up ho hn
      refine ⟨⟨h, ?_, ?_, ?_, a5, fun i hi => ?_, fun e he => ?_, fun p hp => ?_, fun s hs => ?_⟩, h2⟩
      · show -1 ≤ (if v ≤ S.1.1 2 then 0 else S.1.1 2) ∧ (if v ≤ S.1.1 2 then 0 else S.1.1 2) < v
        split <;> omega
      · show zint ((zTcups S.1 v).1 3)
        rw [zTcups_o (by omega) (by omega)]; exact a3
      · show _ ≤ (zTcups S.1 v).1 4 ∧ (zTcups S.1 v).1 4 ≤ _
        rw [zTcups_o (by omega) (by omega)]; exact a4
      · have hi : i < S.1.2.1 := hi
        exact absurd hi (by omega)
      · have b := a7 e he
        show (0 ≤ (zTcups S.1 v).1 (47 + 2 * e) ∧ (zTcups S.1 v).1 (47 + 2 * e) ≤ 10) ∧ 0 ≤ (zTcups S.1 v).1 (48 + 2 * e) ∧ (zTcups S.1 v).1 (48 + 2 * e) < v
        rw [zTcups_o (by omega) (by omega), zTcups_e he]
        refine ⟨b.1, ?_⟩
        split <;> omega
      · show (0 ≤ (zTcups S.1 v).1 (55 + 4 * p) ∧ (zTcups S.1 v).1 (55 + 4 * p) ≤ _) ∧ (1 ≤ (zTcups S.1 v).1 (56 + 4 * p) ∧ (zTcups S.1 v).1 (56 + 4 * p) ≤ 99) ∧ (1 ≤ (zTcups S.1 v).1 (57 + 4 * p) ∧ (zTcups S.1 v).1 (57 + 4 * p) ≤ 9) ∧ 0 ≤ (zTcups S.1 v).1 (58 + 4 * p) ∧ (zTcups S.1 v).1 (58 + 4 * p) ≤ _
        rw [zTcups_o (by omega) (by omega), zTcups_o (by omega) (by omega), zTcups_o (by omega) (by omega), zTcups_o (by omega) (by omega)]; exact a8 p hp
      · show 0 ≤ (zTcups S.1 v).1 (71 + s) ∧ (zTcups S.1 v).1 (71 + s) ≤ 14
        rw [zTcups_o (by omega) (by omega)]; exact a9 s hs
  · exact zSOK_f ho (by omega) hn
theorem zA0 (hL : zLay L) : zA_0 X L := fun n a1 _ S ho hn => zCI (zr_cups S a1) (by unfold zr_cups; repeat' (first | exact ⟨_, rfl⟩ | refine zif1 ?_ ?_)) (zx_cups (d := 38) hL ho) (zm_cups (d := 38) hL ho) (zo_cups ho hn)
end
