/-! CONTRACTS OF CALLS, closed: told. -/
def zgone (purse lost bears : Int) : Int := if lost < bears then (if 0 < purse then 0 else 1) else 1
theorem zgone01 {a b c : Int} : (zgone a b c = 0 ∨ zgone a b c = 1) = True := by
  unfold zgone
  exact eq_true (by split; split; exact Or.inl rfl; exact Or.inr rfl; exact Or.inr rfl)
theorem zgone_if {α : Type} {a b c : Int} {x : Int → α} : (if zgone a b c = 0 then x 0 else x 1) = x (zgone a b c) := by
  rcases (of_eq_true (zgone01 (a := a) (b := b) (c := c))) with h | h
  · rw [h]; rfl
  · rw [h]; rfl
section
variable {X : zX} {d n : Nat} {L : zLt} {S : zSt} {I : Nat → Nat → Int}
theorem zq_Player_isGone {σ : zMem} {a b c : Int} : zcal X zP (d + 1) 20 [.inl a, .inl b, .inl c] σ = some (some (.inl (zgone a b c)), σ) := by
  refine ((zcal_go zp_Player_isGone rfl).trans zb_Player_isGone_0).trans ?_
  unfold zgone
  split
  · split <;> rfl
  · rfl
theorem zq_Player_hasLeft {σ : zMem} {p : Nat} (hp : σ.2.2.1 p = (1, (3, 0))) : zcal X zP (d + 2) 17 [.inr (.inr (.inl p))] σ = some (some (.inl (zgone (σ.1 p 0) (σ.1 p 3) (σ.1 p 2))), σ) := by
  refine ((zcal_go zp_Player_hasLeft rfl).trans zb_Player_hasLeft_0).trans ?_
  simp only [if_true, if_false, Option.bind_some, Option.bind, Option.toList, List.cons_append, List.nil_append, zite0, zite1, zite01, znn, ite_not, true_or, or_true, true_and, and_true, hp, zq_Player_isGone, zb_Player_hasLeft_15, zgone01]
theorem zpl {i : Nat} (hL : zLay L) (h : i < 4) : L.1 5 i = 25 + i ∧ L.2.1 (25 + i) = (1, (3, 0)) := (ztabL hL (Or.inl rfl)).2.2.2.2.2.2.2.2.2.2.2 i h
theorem zc5 (hL : zLay L) {i : Nat} (h : i < 4) : (((L.2.1 5).1 = 5 ∨ (L.2.1 5).1 = 6) ∧ 0 ≤ (i : Int) ∧ (i : Int) < ((L.2.1 5).2.1 : Int)) = True := by
  rw [zk_5 hL]
  exact eq_true ⟨Or.inl rfl, by omega, by show (i : Int) < ((4 : Nat) : Int); omega⟩
/-- what a player has -/
def zown (T : zTb) (p w : Nat) : Int := if w < 4 then T.1 (55 + 4 * p + w) else zgone (T.1 (55 + 4 * p)) (T.1 (55 + 4 * p + 3)) (T.1 (55 + 4 * p + 2))
theorem zq_tells (hL : zLay L) (hr : zRX I S) {p w : Nat} (hp : p < 4) (hw : w < 5) : zcal X zP (d + 3) 14 [.inr (.inr (.inl (25 + p))), .inl (w : Int)] (I, L) = some (some (.inl (zown S.1 p w)), (I, L)) := by
  obtain ⟨-, l4⟩ := zpl hL hp
  have h8 := hr.1.2.2.2.2.2.2.2.1
  have h0 : I (25 + p) 0 = S.1.1 (55 + 4 * p + 0) := h8 p 0 hp (by omega)
  have h1 : I (25 + p) 1 = S.1.1 (55 + 4 * p + 1) := h8 p 1 hp (by omega)
  have h2 : I (25 + p) 2 = S.1.1 (55 + 4 * p + 2) := h8 p 2 hp (by omega)
  have h3 : I (25 + p) 3 = S.1.1 (55 + 4 * p + 3) := h8 p 3 hp (by omega)
  refine ((zcal_go zp_Player_tells rfl).trans zb_Player_tells_0).trans ?_
  unfold zown
  rcases (show w = 0 ∨ w = 1 ∨ w = 2 ∨ w = 3 ∨ w = 4 by omega) with rfl | rfl | rfl | rfl | rfl
  · refine (zb_Player_tells_1_0).trans ?_
    simp only [if_true, if_false, Option.bind_some, Option.bind, Option.toList, List.cons_append, List.nil_append, zite0, zite1, zite01, znn, ite_not, true_or, or_true, true_and, and_true, l4, h0]
    rfl
  · refine (zb_Player_tells_1_1).trans ?_
    simp only [if_true, if_false, Option.bind_some, Option.bind, Option.toList, List.cons_append, List.nil_append, zite0, zite1, zite01, znn, ite_not, true_or, or_true, true_and, and_true, l4, h1]
    rfl
  · refine (zb_Player_tells_1_2).trans ?_
    simp only [if_true, if_false, Option.bind_some, Option.bind, Option.toList, List.cons_append, List.nil_append, zite0, zite1, zite01, znn, ite_not, true_or, or_true, true_and, and_true, l4, h2]
    rfl
  · refine (zb_Player_tells_1_3).trans ?_
    simp only [if_true, if_false, Option.bind_some, Option.bind, Option.toList, List.cons_append, List.nil_append, zite0, zite1, zite01, znn, ite_not, true_or, or_true, true_and, and_true, l4, h3]
    rfl
  · have hq := zq_Player_hasLeft (X := X) (d := d) (σ := (I, L)) (p := 25 + p) l4
    rw [zb_Player_tells_1_d (by omega), zb_Player_tells_52]
    simp only [if_true, if_false, Option.bind_some, Option.bind, Option.toList, List.cons_append, List.nil_append, zite0, zite1, zite01, znn, ite_not, true_or, or_true, true_and, and_true, l4, hq, h0, h2, h3, zb_Player_tells_56]
    exact zgone_if (x := fun z => some (some (Sum.inl z), (I, L)))
theorem zq_M_whose (hL : zLay L) (hr : zRM I S) {p w : Nat} (hp : p < 4) (hw : w < 4) : zcal X zP (d + 1) 195 [.inr (.inr (.inl 135)), .inl (p : Int), .inl (w : Int)] (I, L) = some (some (.inl (S.1.1 (55 + 4 * p + w))), (I, L)) := by
  have e : w32 ((w32 (55 + (w32 (4 * (p : Int))))) + (w : Int)) = ((55 + 4 * p + w : Nat) : Int) := by unfold w32; omega
  have h := hr.1.1 (55 + 4 * p + w) (by omega)
  refine ((zcal_go zp_M_whose rfl).trans zb_M_whose_0).trans ?_
  simp only [if_true, if_false, Option.bind_some, Option.bind, Option.toList, List.cons_append, List.nil_append, zite0, zite1, zite01, znn, ite_not, true_or, or_true, true_and, and_true, e, zk_135 hL, zr_135_0 hL, zd136 hL (show 0 ≤ ((55 + 4 * p + w : Nat) : Int) ∧ ((55 + 4 * p + w : Nat) : Int) < 96 by omega), Int.toNat_natCast, h]
theorem zq_M_hasLeft {n : Nat} (hL : zLay L) (ho : zSOK n S) (hr : zRM I S) {p : Nat} (hp : p < 4) : zcal X zP (d + 2) 197 [.inr (.inr (.inl 135)), .inl (p : Int)] (I, L) = some (some (.inl (zgone (S.1.1 (55 + 4 * p)) (S.1.1 (55 + 4 * p + 3)) (S.1.1 (55 + 4 * p + 2)))), (I, L)) := by
  have q3 := zq_M_whose (X := X) (d := d) hL hr hp (w := 3) (by omega)
  have q2 := zq_M_whose (X := X) (d := d) hL hr hp (w := 2) (by omega)
  have q0 := zq_M_whose (X := X) (d := d) hL hr hp (w := 0) (by omega)
  have q3 : zcal X zP (d + 1) 195 [.inr (.inr (.inl 135)), .inl (p : Int), .inl 3] (I, L) = _ := q3
  have q2 : zcal X zP (d + 1) 195 [.inr (.inr (.inl 135)), .inl (p : Int), .inl 2] (I, L) = _ := q2
  have q0 : zcal X zP (d + 1) 195 [.inr (.inr (.inl 135)), .inl (p : Int), .inl 0] (I, L) = some (some (.inl (S.1.1 (55 + 4 * p))), (I, L)) := q0
  have hb := (ho.1.2.2.2.2.2.2.2.1 p hp).1.1
  refine ((zcal_go zp_M_hasLeft rfl).trans zb_M_hasLeft_0).trans ?_
  simp only [if_true, if_false, Option.bind_some, Option.bind, Option.toList, List.cons_append, List.nil_append, zite0, zite1, zite01, znn, ite_not, true_or, or_true, true_and, and_true, zk_135 hL, q3, zb_M_hasLeft_6, q2, zb_M_hasLeft_12, q0, zb_M_hasLeft_21]
  unfold zgone
  split
  · by_cases h : S.1.1 (55 + 4 * p) = 0
    · rw [if_pos h, if_neg (by omega)]
    · rw [if_neg h, if_pos (by omega)]
  · rfl
end
