/-! CONTRACTS OF CALLS, closed: of. -/
section
variable {X : zX} {d n : Nat} {L : zLt} {S : zSt}
def zr_of (S : zSt) (p w : Int) : zV × zSt := if (0 ≤ p ∧ p ≤ (S.1.2.1 : Int) - 1) ∧ (0 ≤ w ∧ w ≤ 3) then (.inl (if w < 3 then zfig (S.1.2.2 p.toNat) w.toNat else zlooks (S.1.2.2 p.toNat).1 (S.1.2.2 p.toNat).2.1 (S.1.2.2 p.toNat).2.2), S) else (.inl (-1000001), zSf S 0)
theorem zx_of (hL : zLay L) (ho : zSOK n S) {p w : Int} : zHX X L (d + 3) 73 [.inl p, .inl w] S (zr_of S p w) := by
  intro I hr
  have h14 := ho.1.2.2.2.2.1
  have hb := zq_X_isPass (X := X) (d := d) (v := p) hL hr.1 ho.1
  have hc := zq_X_within (X := X) (d := d + 1) (σ := (I, L)) (v := w) (a := 0) (b := 3)
  obtain ⟨I', h1, h2, h3⟩ := zX_tellc (X := X) (d := d + 1) (k := 0) (c := -1000001) hL ho (by omega) (by omega) hr
  unfold zr_of
  by_cases hp : 0 ≤ p ∧ p ≤ (S.1.2.1 : Int) - 1
  · rw [if_pos hp] at hb
    by_cases hk : 0 ≤ w ∧ w ≤ 3
    · rw [if_pos hk] at hc
      rw [if_pos ⟨hp, hk⟩]
      obtain ⟨m, rfl⟩ := Int.eq_ofNat_of_zero_le hp.1
      obtain ⟨l3, l4⟩ := zp14 hL (show m < 14 by omega)
      obtain ⟨p1, p2, p3⟩ := hr.1.2.2.2.2.2.1 m (by omega)
      obtain ⟨-, -, -, o7⟩ := ho.1.2.2.2.2.2.1 m (by omega)
      have hq := zq_Pass_looksTo (X := X) (d := d) (σ := (I, L)) (p := 7 + m) l4 (by show I (2 + 5 + m) 1 ≠ I (2 + 5 + m) 2; rw [p2, p3]; exact o7)
      have p1 : I (7 + m) 0 = _ := p1
      have p2 : I (7 + m) 1 = _ := p2
      have p3 : I (7 + m) 2 = _ := p3
      refine ⟨I, ?_, hr, fun a ha => rfl⟩
      refine ((zcal_go zp_X_of rfl).trans zb_X_of_0).trans ?_
      simp only [if_true, if_false, Option.bind_some, Option.bind, Option.toList, List.cons_append, List.nil_append, zite0, zite1, zite01, znn, ite_not, true_or, or_true, true_and, and_true, zk_1 hL, hb, zb_X_of_5, hc, zb_X_of_14, zr_1_0 hL, zk_2 hL, zr_2_5 hL, zc3 hL (show m < 14 by omega), Int.toNat_natCast, l3]
      rcases (show w = 0 ∨ w = 1 ∨ w = 2 ∨ w = 3 by omega) with rfl | rfl | rfl | rfl
      · simp only [if_true, if_false, Option.bind_some, Option.bind, Option.toList, List.cons_append, List.nil_append, zite0, zite1, zite01, znn, ite_not, true_or, or_true, true_and, and_true, zb_X_of_35_0, l4, p1]
        rfl
      · simp only [if_true, if_false, Option.bind_some, Option.bind, Option.toList, List.cons_append, List.nil_append, zite0, zite1, zite01, znn, ite_not, true_or, or_true, true_and, and_true, zb_X_of_35_1, l4, p2]
        rfl
      · simp only [if_true, if_false, Option.bind_some, Option.bind, Option.toList, List.cons_append, List.nil_append, zite0, zite1, zite01, znn, ite_not, true_or, or_true, true_and, and_true, zb_X_of_35_2, l4, p3]
        rfl
      · rw [if_neg (by decide), zb_X_of_35_d (by omega), zb_X_of_75]
        simp only [if_true, if_false, Option.bind_some, Option.bind, Option.toList, List.cons_append, List.nil_append, zite0, zite1, zite01, znn, ite_not, true_or, or_true, true_and, and_true, l4, hq, p1, p2, p3, zb_X_of_79]
        rfl
    · rw [if_neg hk] at hc
      rw [if_neg (fun h => hk h.2)]
      refine ⟨I', ?_, h2, h3⟩
      refine ((zcal_go zp_X_of rfl).trans zb_X_of_0).trans ?_
      simp only [if_true, if_false, Option.bind_some, Option.bind, Option.toList, List.cons_append, List.nil_append, zite0, zite1, zite01, znn, ite_not, true_or, or_true, true_and, and_true, zk_1 hL, hb, zb_X_of_5, hc, zb_X_of_14, h1, zb_X_of_23]
      rfl
  · rw [if_neg hp] at hb
    rw [if_neg (fun h => hp h.1)]
    refine ⟨I', ?_, h2, h3⟩
    refine ((zcal_go zp_X_of rfl).trans zb_X_of_0).trans ?_
    simp only [if_true, if_false, Option.bind_some, Option.bind, Option.toList, List.cons_append, List.nil_append, zite0, zite1, zite01, znn, ite_not, true_or, or_true, true_and, and_true, zk_1 hL, hb, zb_X_of_5, h1, zb_X_of_23]
theorem zm_of (hL : zLay L) (ho : zSOK n S) {p w : Int} : zHM X L (d + 3) 156 [.inl p, .inl w] S (zr_of S p w) := by
  intro I hr
  have h14 := ho.1.2.2.2.2.1
  have hb := zq_M_isPass (X := X) (d := d) (v := p) hL hr.1 ho.1
  have hc := zq_M_in (X := X) (d := d + 1) (σ := (I, L)) (v := w) (a := 0) (b := 3)
  obtain ⟨I', h1, h2, h3⟩ := zM_findsc (X := X) (d := d + 1) (k := 0) (c := -1000001) (k' := 0) hL ho (by omega) (by omega) (by omega) hr
  unfold zr_of
  by_cases hp : 0 ≤ p ∧ p ≤ (S.1.2.1 : Int) - 1
  · rw [if_pos hp] at hb
    by_cases hk : 0 ≤ w ∧ w ≤ 3
    · rw [if_pos hk] at hc
      rw [if_pos ⟨hp, hk⟩]
      obtain ⟨m, rfl⟩ := Int.eq_ofNat_of_zero_le hp.1
      obtain ⟨k, rfl⟩ := Int.eq_ofNat_of_zero_le hk.1
      refine ⟨I, ?_, hr, fun a ha => rfl⟩
      refine ((zcal_go zp_M_of rfl).trans zb_M_of_0).trans ?_
      simp only [if_true, if_false, Option.bind_some, Option.bind, Option.toList, List.cons_append, List.nil_append, zite0, zite1, zite01, znn, ite_not, true_or, or_true, true_and, and_true, zk_135 hL, hb, zb_M_of_5, hc, zb_M_of_17, Int.toNat_natCast]
      by_cases h3 : (k : Int) < 3
      · have hq := zq_M_its (X := X) (d := d + 1) hL hr.1 ho.1 (show m < S.1.2.1 by omega) (show k < 3 by omega)
        simp only [if_true, if_false, Option.bind_some, Option.bind, Option.toList, List.cons_append, List.nil_append, zite0, zite1, zite01, znn, ite_not, true_or, or_true, true_and, and_true, h3, hq, zb_M_of_37, zb_M_of_45]
        rfl
      · have hq := zq_M_seen (X := X) (d := d) hL hr.1 ho.1 (show m < S.1.2.1 by omega)
        simp only [if_true, if_false, Option.bind_some, Option.bind, Option.toList, List.cons_append, List.nil_append, zite0, zite1, zite01, znn, ite_not, true_or, or_true, true_and, and_true, h3, hq, zb_M_of_45]
        rfl
    · rw [if_neg hk] at hc
      rw [if_neg (fun h => hk h.2)]
      refine ⟨I', ?_, h2, h3⟩
      refine ((zcal_go zp_M_of rfl).trans zb_M_of_0).trans ?_
      simp only [if_true, if_false, Option.bind_some, Option.bind, Option.toList, List.cons_append, List.nil_append, zite0, zite1, zite01, znn, ite_not, true_or, or_true, true_and, and_true, zk_135 hL, hb, zb_M_of_5, hc, zb_M_of_17, h1, zb_M_of_25]
      rfl
  · rw [if_neg hp] at hb
    rw [if_neg (fun h => hp h.1)]
    refine ⟨I', ?_, h2, h3⟩
    refine ((zcal_go zp_M_of rfl).trans zb_M_of_0).trans ?_
    simp only [if_true, if_false, Option.bind_some, Option.bind, Option.toList, List.cons_append, List.nil_append, zite0, zite1, zite01, znn, ite_not, true_or, or_true, true_and, and_true, zk_135 hL, hb, zb_M_of_5, h1, zb_M_of_25]
theorem zo_of (ho : zSOK n S) (hn : n < 100000) {p w : Int} : zSOK (n + 1) (zr_of S p w).2 := by
  unfold zr_of
  split
  · exact zSOK_up ho hn
  · exact zSOK_f ho (by omega) hn
theorem zA3 (hL : zLay L) : zA_3 X L := fun n a1 a2 _ _ S ho hn => zCI (zr_of S a1 a2) (by unfold zr_of; split <;> exact ⟨_, rfl⟩) (zx_of (d := 37) hL ho) (zm_of (d := 37) hL ho) (zo_of ho hn)
end
