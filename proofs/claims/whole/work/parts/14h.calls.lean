/-! CONTRACTS OF CALLS, closed: told. -/
section
variable {X : zX} {d n : Nat} {L : zLt} {S : zSt}
def zr_told (S : zSt) (p w : Int) : zV × zSt := if (0 ≤ p ∧ p ≤ 3) ∧ (0 ≤ w ∧ w ≤ 4) then (.inl (zown S.1 p.toNat w.toNat), S) else (.inl (-1000001), zSf S 0)
theorem zx_told (hL : zLay L) (ho : zSOK n S) {p w : Int} : zHX X L (d + 4) 96 [.inl p, .inl w] S (zr_told S p w) := by
  intro I hr
  have hb := zq_X_isPlayer (X := X) (d := d + 1) (σ := (I, L)) (v := p)
  have hc := zq_X_within (X := X) (d := d + 2) (σ := (I, L)) (v := w) (a := 0) (b := 4)
  obtain ⟨I', h1, h2, h3⟩ := zX_tellc (X := X) (d := d + 2) (k := 0) (c := -1000001) hL ho (by omega) (by omega) hr
  unfold zr_told
  by_cases hp : 0 ≤ p ∧ p ≤ 3
  · rw [if_pos hp] at hb
    by_cases hk : 0 ≤ w ∧ w ≤ 4
    · rw [if_pos hk] at hc
      rw [if_pos ⟨hp, hk⟩]
      obtain ⟨m, rfl⟩ := Int.eq_ofNat_of_zero_le hp.1
      obtain ⟨k, rfl⟩ := Int.eq_ofNat_of_zero_le hk.1
      obtain ⟨l3, l4⟩ := zpl hL (show m < 4 by omega)
      have hq := zq_tells (X := X) (d := d) hL hr (show m < 4 by omega) (show k < 5 by omega)
      refine ⟨I, ?_, hr, fun a ha => rfl⟩
      refine ((zcal_go zp_X_told rfl).trans zb_X_told_0).trans ?_
      simp only [if_true, if_false, Option.bind_some, Option.bind, Option.toList, List.cons_append, List.nil_append, zite0, zite1, zite01, znn, ite_not, true_or, or_true, true_and, and_true, hb, zb_X_told_4, hc, zb_X_told_13, zk_1 hL, zr_1_0 hL, zk_2 hL, zr_2_7 hL, zc5 hL (show m < 4 by omega), Int.toNat_natCast, l3, l4, hq, zb_X_told_36]
      rfl
    · rw [if_neg hk] at hc
      rw [if_neg (fun h => hk h.2)]
      refine ⟨I', ?_, h2, h3⟩
      refine ((zcal_go zp_X_told rfl).trans zb_X_told_0).trans ?_
      simp only [if_true, if_false, Option.bind_some, Option.bind, Option.toList, List.cons_append, List.nil_append, zite0, zite1, zite01, znn, ite_not, true_or, or_true, true_and, and_true, hb, zb_X_told_4, hc, zb_X_told_13, zk_1 hL, h1, zb_X_told_22]
      rfl
  · rw [if_neg hp] at hb
    rw [if_neg (fun h => hp h.1)]
    refine ⟨I', ?_, h2, h3⟩
    refine ((zcal_go zp_X_told rfl).trans zb_X_told_0).trans ?_
    simp only [if_true, if_false, Option.bind_some, Option.bind, Option.toList, List.cons_append, List.nil_append, zite0, zite1, zite01, znn, ite_not, true_or, or_true, true_and, and_true, hb, zb_X_told_4, zk_1 hL, h1, zb_X_told_22]
theorem zm_told (hL : zLay L) (ho : zSOK n S) {p w : Int} : zHM X L (d + 3) 199 [.inl p, .inl w] S (zr_told S p w) := by
  intro I hr
  have hb := zq_M_isFour (X := X) (d := d) (σ := (I, L)) (v := p)
  have hc := zq_M_in (X := X) (d := d + 1) (σ := (I, L)) (v := w) (a := 0) (b := 4)
  obtain ⟨I', h1, h2, h3⟩ := zM_findsc (X := X) (d := d + 1) (k := 0) (c := -1000001) (k' := 0) hL ho (by omega) (by omega) (by omega) hr
  unfold zr_told
  by_cases hp : 0 ≤ p ∧ p ≤ 3
  · rw [if_pos hp] at hb
    by_cases hk : 0 ≤ w ∧ w ≤ 4
    · rw [if_pos hk] at hc
      rw [if_pos ⟨hp, hk⟩]
      obtain ⟨m, rfl⟩ := Int.eq_ofNat_of_zero_le hp.1
      obtain ⟨k, rfl⟩ := Int.eq_ofNat_of_zero_le hk.1
      refine ⟨I, ?_, hr, fun a ha => rfl⟩
      unfold zown
      by_cases h4 : k < 4
      · have hq := zq_M_whose (X := X) (d := d + 1) hL hr (show m < 4 by omega) h4
        refine ((zcal_go zp_M_told rfl).trans zb_M_told_0).trans ?_
        simp only [if_true, if_false, Option.bind_some, Option.bind, Option.toList, List.cons_append, List.nil_append, zite0, zite1, zite01, znn, ite_not, true_or, or_true, true_and, and_true, hb, zb_M_told_4, hc, zb_M_told_16, eq_true (show (k : Int) < 4 by omega), zk_135 hL, Int.toNat_natCast, hq, zb_M_told_36, h4]
        rfl
      · have hq := zq_M_hasLeft (X := X) (d := d) hL ho hr (show m < 4 by omega)
        refine ((zcal_go zp_M_told rfl).trans zb_M_told_0).trans ?_
        simp only [if_true, if_false, Option.bind_some, Option.bind, Option.toList, List.cons_append, List.nil_append, zite0, zite1, zite01, znn, ite_not, true_or, or_true, true_and, and_true, hb, zb_M_told_4, hc, zb_M_told_16, eq_false (show ¬ (k : Int) < 4 by omega), zk_135 hL, Int.toNat_natCast, hq, zb_M_told_44, h4]
        exact zgone_if (x := fun z => some (some (Sum.inl z), (I, L)))
    · rw [if_neg hk] at hc
      rw [if_neg (fun h => hk h.2)]
      refine ⟨I', ?_, h2, h3⟩
      refine ((zcal_go zp_M_told rfl).trans zb_M_told_0).trans ?_
      simp only [if_true, if_false, Option.bind_some, Option.bind, Option.toList, List.cons_append, List.nil_append, zite0, zite1, zite01, znn, ite_not, true_or, or_true, true_and, and_true, hb, zb_M_told_4, hc, zb_M_told_16, zk_135 hL, h1, zb_M_told_24]
      rfl
  · rw [if_neg hp] at hb
    rw [if_neg (fun h => hp h.1)]
    refine ⟨I', ?_, h2, h3⟩
    refine ((zcal_go zp_M_told rfl).trans zb_M_told_0).trans ?_
    simp only [if_true, if_false, Option.bind_some, Option.bind, Option.toList, List.cons_append, List.nil_append, zite0, zite1, zite01, znn, ite_not, true_or, or_true, true_and, and_true, hb, zb_M_told_4, zk_135 hL, h1, zb_M_told_24]
theorem zo_told (ho : zSOK n S) (hn : n < 100000) {p w : Int} : zSOK (n + 1) (zr_told S p w).2 := by
  unfold zr_told
  split
  · exact zSOK_up ho hn
  · exact zSOK_f ho (by omega) hn
theorem zA26 (hL : zLay L) : zA_26 X L := fun n a1 a2 _ _ S ho hn => zCI (zr_told S a1 a2) (by unfold zr_told; split <;> exact ⟨_, rfl⟩) (zx_told (d := 36) hL ho) (zm_told (d := 37) hL ho) (zo_told ho hn)
end
