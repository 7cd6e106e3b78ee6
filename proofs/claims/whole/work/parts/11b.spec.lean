/-! WHAT THE MEMORY STANDS FOR. A table is (its numbers as the reference's row has them, (how many passes, the passes)). -/
abbrev zTb : Type := (Nat → Int) × (Nat × (Nat → Int × (Int × Int)))
def zTabL (L : zLt) (t : Nat) : Prop := L.2.1 t = (1, (7, 0)) ∧ L.1 t 5 = t + 1 ∧ L.1 t 6 = t + 2 ∧ L.1 t 7 = t + 3 ∧ L.1 t 8 = t + 4 ∧ L.2.1 (t + 1) = (5, (14, 2)) ∧ L.2.1 (t + 2) = (5, (4, 0)) ∧ L.2.1 (t + 3) = (5, (4, 3)) ∧ L.2.1 (t + 4) = (2, (10, 0)) ∧ (∀ i, i < 14 → L.1 (t + 1) i = t + 5 + i ∧ L.2.1 (t + 5 + i) = (1, (2, 0))) ∧ (∀ i, i < 4 → L.1 (t + 2) i = t + 19 + i ∧ L.2.1 (t + 19 + i) = (1, (0, 0))) ∧ ∀ i, i < 4 → L.1 (t + 3) i = t + 23 + i ∧ L.2.1 (t + 23 + i) = (1, (3, 0))
theorem ztabL {L : zLt} (h : zLay L) {t : Nat} (ht : t = 2 ∨ t = 29 ∨ t = 56) : zTabL L t := by
  obtain ⟨h1, h2, -⟩ := h
  rcases ht with rfl | rfl | rfl
  · exact ⟨h1 (2, (1, (7, 0))) (by decide +kernel), h2 (2, (5, 3)) (by decide +kernel), h2 (2, (6, 4)) (by decide +kernel), h2 (2, (7, 5)) (by decide +kernel), h2 (2, (8, 6)) (by decide +kernel), h1 (3, (5, (14, 2))) (by decide +kernel), h1 (4, (5, (4, 0))) (by decide +kernel), h1 (5, (5, (4, 3))) (by decide +kernel), h1 (6, (2, (10, 0))) (by decide +kernel), fun i hi => ⟨h2 (3, (i, 2 + 5 + i)) ((by decide +kernel : ∀ i, i < 14 → ((3, (i, 2 + 5 + i)) : Nat × (Nat × Nat)) ∈ zRtab) i hi), h1 (2 + 5 + i, (1, (2, 0))) ((by decide +kernel : ∀ i, i < 14 → ((2 + 5 + i, (1, (2, 0))) : Nat × (Nat × (Nat × Nat))) ∈ zKtab) i hi)⟩, fun i hi => ⟨h2 (4, (i, 2 + 19 + i)) ((by decide +kernel : ∀ i, i < 4 → ((4, (i, 2 + 19 + i)) : Nat × (Nat × Nat)) ∈ zRtab) i hi), h1 (2 + 19 + i, (1, (0, 0))) ((by decide +kernel : ∀ i, i < 4 → ((2 + 19 + i, (1, (0, 0))) : Nat × (Nat × (Nat × Nat))) ∈ zKtab) i hi)⟩, fun i hi => ⟨h2 (5, (i, 2 + 23 + i)) ((by decide +kernel : ∀ i, i < 4 → ((5, (i, 2 + 23 + i)) : Nat × (Nat × Nat)) ∈ zRtab) i hi), h1 (2 + 23 + i, (1, (3, 0))) ((by decide +kernel : ∀ i, i < 4 → ((2 + 23 + i, (1, (3, 0))) : Nat × (Nat × (Nat × Nat))) ∈ zKtab) i hi)⟩⟩
  · exact ⟨h1 (29, (1, (7, 0))) (by decide +kernel), h2 (29, (5, 30)) (by decide +kernel), h2 (29, (6, 31)) (by decide +kernel), h2 (29, (7, 32)) (by decide +kernel), h2 (29, (8, 33)) (by decide +kernel), h1 (30, (5, (14, 2))) (by decide +kernel), h1 (31, (5, (4, 0))) (by decide +kernel), h1 (32, (5, (4, 3))) (by decide +kernel), h1 (33, (2, (10, 0))) (by decide +kernel), fun i hi => ⟨h2 (30, (i, 29 + 5 + i)) ((by decide +kernel : ∀ i, i < 14 → ((30, (i, 29 + 5 + i)) : Nat × (Nat × Nat)) ∈ zRtab) i hi), h1 (29 + 5 + i, (1, (2, 0))) ((by decide +kernel : ∀ i, i < 14 → ((29 + 5 + i, (1, (2, 0))) : Nat × (Nat × (Nat × Nat))) ∈ zKtab) i hi)⟩, fun i hi => ⟨h2 (31, (i, 29 + 19 + i)) ((by decide +kernel : ∀ i, i < 4 → ((31, (i, 29 + 19 + i)) : Nat × (Nat × Nat)) ∈ zRtab) i hi), h1 (29 + 19 + i, (1, (0, 0))) ((by decide +kernel : ∀ i, i < 4 → ((29 + 19 + i, (1, (0, 0))) : Nat × (Nat × (Nat × Nat))) ∈ zKtab) i hi)⟩, fun i hi => ⟨h2 (32, (i, 29 + 23 + i)) ((by decide +kernel : ∀ i, i < 4 → ((32, (i, 29 + 23 + i)) : Nat × (Nat × Nat)) ∈ zRtab) i hi), h1 (29 + 23 + i, (1, (3, 0))) ((by decide +kernel : ∀ i, i < 4 → ((29 + 23 + i, (1, (3, 0))) : Nat × (Nat × (Nat × Nat))) ∈ zKtab) i hi)⟩⟩
  · exact ⟨h1 (56, (1, (7, 0))) (by decide +kernel), h2 (56, (5, 57)) (by decide +kernel), h2 (56, (6, 58)) (by decide +kernel), h2 (56, (7, 59)) (by decide +kernel), h2 (56, (8, 60)) (by decide +kernel), h1 (57, (5, (14, 2))) (by decide +kernel), h1 (58, (5, (4, 0))) (by decide +kernel), h1 (59, (5, (4, 3))) (by decide +kernel), h1 (60, (2, (10, 0))) (by decide +kernel), fun i hi => ⟨h2 (57, (i, 56 + 5 + i)) ((by decide +kernel : ∀ i, i < 14 → ((57, (i, 56 + 5 + i)) : Nat × (Nat × Nat)) ∈ zRtab) i hi), h1 (56 + 5 + i, (1, (2, 0))) ((by decide +kernel : ∀ i, i < 14 → ((56 + 5 + i, (1, (2, 0))) : Nat × (Nat × (Nat × Nat))) ∈ zKtab) i hi)⟩, fun i hi => ⟨h2 (58, (i, 56 + 19 + i)) ((by decide +kernel : ∀ i, i < 4 → ((58, (i, 56 + 19 + i)) : Nat × (Nat × Nat)) ∈ zRtab) i hi), h1 (56 + 19 + i, (1, (0, 0))) ((by decide +kernel : ∀ i, i < 4 → ((56 + 19 + i, (1, (0, 0))) : Nat × (Nat × (Nat × Nat))) ∈ zKtab) i hi)⟩, fun i hi => ⟨h2 (59, (i, 56 + 23 + i)) ((by decide +kernel : ∀ i, i < 4 → ((59, (i, 56 + 23 + i)) : Nat × (Nat × Nat)) ∈ zRtab) i hi), h1 (56 + 23 + i, (1, (3, 0))) ((by decide +kernel : ∀ i, i < 4 → ((56 + 23 + i, (1, (3, 0))) : Nat × (Nat × (Nat × Nat))) ∈ zKtab) i hi)⟩⟩
/-- a table of the class at t -/
def zTC (I : Nat → Nat → Int) (t : Nat) (T : zTb) : Prop := I t 0 = T.1 0 ∧ I t 1 = T.1 2 ∧ I t 2 = (T.2.1 : Int) ∧ I t 3 = T.1 4 ∧ I t 4 = T.1 3 ∧ (∀ i, i < T.2.1 → I (t + 5 + i) 0 = (T.2.2 i).1 ∧ I (t + 5 + i) 1 = (T.2.2 i).2.1 ∧ I (t + 5 + i) 2 = (T.2.2 i).2.2) ∧ (∀ e, e < 4 → I (t + 19 + e) 0 = T.1 (47 + 2 * e) ∧ I (t + 19 + e) 1 = T.1 (48 + 2 * e)) ∧ (∀ p k, p < 4 → k < 4 → I (t + 23 + p) k = T.1 (55 + 4 * p + k)) ∧ ∀ s, s < 10 → I (t + 4) s = T.1 (71 + s) - 1
/-- a table of the reference at a -/
def zTM (I : Nat → Nat → Int) (a : Nat) (T : zTb) : Prop := (∀ j, j = 0 ∨ (2 ≤ j ∧ j ≤ 4) ∨ (47 ≤ j ∧ j < 81) → I a j = T.1 j) ∧ I a 1 = (T.2.1 : Int) ∧ ∀ i, i < T.2.1 → I a (5 + 3 * i) = (T.2.2 i).1 ∧ I a (6 + 3 * i) = (T.2.2 i).2.1 ∧ I a (7 + 3 * i) = (T.2.2 i).2.2
def zint (x : Int) : Prop := -2147483648 ≤ x ∧ x < 2147483648
/-- what a table keeps, after n calls -/
def zTOK (n : Nat) (T : zTb) : Prop := (3 ≤ T.1 0 ∧ T.1 0 ≤ 6) ∧ (-1 ≤ T.1 2 ∧ T.1 2 < T.1 0) ∧ zint (T.1 3) ∧ (-(200 * n : Int) ≤ T.1 4 ∧ T.1 4 ≤ 200 * n) ∧ T.2.1 ≤ 14 ∧ (∀ i, i < T.2.1 → (0 ≤ (T.2.2 i).1 ∧ (T.2.2 i).1 < 7) ∧ (0 ≤ (T.2.2 i).2.1 ∧ (T.2.2 i).2.1 < T.1 0) ∧ (0 ≤ (T.2.2 i).2.2 ∧ (T.2.2 i).2.2 < T.1 0) ∧ (T.2.2 i).2.1 ≠ (T.2.2 i).2.2) ∧ (∀ e, e < 4 → (0 ≤ T.1 (47 + 2 * e) ∧ T.1 (47 + 2 * e) ≤ 10) ∧ 0 ≤ T.1 (48 + 2 * e) ∧ T.1 (48 + 2 * e) < T.1 0) ∧ (∀ p, p < 4 → (0 ≤ T.1 (55 + 4 * p) ∧ T.1 (55 + 4 * p) ≤ 10000 + 200 * n) ∧ (1 ≤ T.1 (56 + 4 * p) ∧ T.1 (56 + 4 * p) ≤ 99) ∧ (1 ≤ T.1 (57 + 4 * p) ∧ T.1 (57 + 4 * p) ≤ 9) ∧ 0 ≤ T.1 (58 + 4 * p) ∧ T.1 (58 + 4 * p) ≤ n) ∧ ∀ s, s < 10 → 0 ≤ T.1 (71 + s) ∧ T.1 (71 + s) ≤ 14
/-- m rounds from the i-th on -/
def zfor {α : Type} (f : Nat → α → α) : Nat → Nat → α → α
  | 0, _, a => a
  | m + 1, i, a => zfor f m (i + 1) (f i a)
/-- where the pea is behind k passes -/
def zpeaAt (T : zTb) (k : Nat) : Int := zfor (fun i a => zpea (T.2.2 i).1 (T.2.2 i).2.1 (T.2.2 i).2.2 a) k 0 (T.1 2)
def zthingAt (T : zTb) (k : Nat) (a : Int) : Int := zfor (fun i a => zthing (T.2.2 i).1 (T.2.2 i).2.1 (T.2.2 i).2.2 a) k 0 a
theorem zw32 {x : Int} (h1 : -2147483648 ≤ x) (h2 : x < 2147483648) : w32 x = x := by unfold w32; omega
theorem zw32n {i : Nat} (h : i < 1000000) : w32 ((i : Int) + 1) = ((i + 1 : Nat) : Int) := by unfold w32; omega
section
variable {X : zX} {d : Nat} {I : Nat → Nat → Int} {L : zLt} {t n : Nat} {T : zTb}
theorem zq_Table_peaBehind_l (hl : zTabL L t) (hr : zTC I t T) (ho : zTOK n T) {k : Nat} (hk : k ≤ T.2.1) : ∀ (m i : Nat) (a : Int), i + m = k → zgo X (zcal X zP (d + 4)) zc_Table_peaBehind 7 [some (.inr (.inr (.inl t))), some (.inl (k : Int)), some (.inl a), some (.inl (i : Int))] [] (I, L) = some (some (.inl (zfor (fun i a => zpea (T.2.2 i).1 (T.2.2 i).2.1 (T.2.2 i).2.2 a) m i a)), (I, L)) := by
  obtain ⟨l1, l2, -, -, -, l6, -, -, -, l10, -⟩ := hl
  obtain ⟨-, -, -, -, -, r6, -⟩ := hr
  obtain ⟨-, -, -, -, o5, o6, -⟩ := ho
  intro m
  induction m with
  | zero =>
    intro i a hi
    rw [zb_Table_peaBehind_7, if_neg (by omega)]
    rfl
  | succ m ih =>
    intro i a hi
    obtain ⟨l3, l4⟩ := l10 i (by omega)
    obtain ⟨p1, p2, p3⟩ := r6 i (by omega)
    obtain ⟨-, -, -, o7⟩ := o6 i (by omega)
    have hp := zq_Pass_peaBehind (X := X) (d := d) (σ := (I, L)) (p := t + 5 + i) (v := a) l4 (by show I _ 1 ≠ I _ 2; rw [p2, p3]; exact o7)
    rw [zb_Table_peaBehind_7, if_pos (by omega)]
    simp only [l1, l2, l6, Int.toNat_natCast, l3, l4, if_true, true_or, true_and]
    rw [if_pos (by omega), hp]
    simp only [Option.bind, Option.toList, List.cons_append, List.nil_append, p1, p2, p3]
    rw [zb_Table_peaBehind_22, zw32n (by omega), ih _ _ (by omega)]
    rfl
theorem zq_Table_peaBehind (hl : zTabL L t) (hr : zTC I t T) (ho : zTOK n T) {k : Nat} (hk : k ≤ T.2.1) : zcal X zP (d + 5) 45 [.inr (.inr (.inl t)), .inl (k : Int)] (I, L) = some (some (.inl (zpeaAt T k)), (I, L)) := by
  refine ((zcal_go zp_Table_peaBehind rfl).trans zb_Table_peaBehind_0).trans ?_
  have e : (I, L).1 t 1 = T.1 2 := hr.2.1
  rw [if_pos hl.1, e]
  exact zq_Table_peaBehind_l hl hr ho hk k 0 _ (by omega)
end
