/-! MISLED, ROW: the class's half. -/
def zmF (S : zSt) (e n k : Int) : Int × Nat := zmq S.1 (S.1.1 0).toNat e.toNat n.toNat k
def zr_misled (S : zSt) (e n k : Int) : zV × zSt := if (0 ≤ e ∧ e ≤ 3) ∧ (1 ≤ n ∧ n ≤ 4) ∧ (0 ≤ k ∧ k ≤ 6) then (if 14 < (S.1.2.1 : Int) + n then (.inr (.inl (-1000002)), zSf S 1) else (.inr (.inl (zmF S e n k).1), S)) else (.inr (.inl (-1000001)), zSf S 0)
def zrw2 (S : zSt) (e n k i : Int) : Int := zcd (S.1.1 0).toNat ((zmF S e n k).2 / zPP (S.1.1 0).toNat ^ (n.toNat - 1 - i.toNat) % zPP (S.1.1 0).toNat)
def zr_row (S : zSt) (e n k i : Int) : zV × zSt := if (0 ≤ e ∧ e ≤ 3) ∧ (1 ≤ n ∧ n ≤ 4) ∧ (0 ≤ k ∧ k ≤ 6) ∧ (0 ≤ i ∧ i ≤ n - 1) then (if 14 < (S.1.2.1 : Int) + n then (.inl (-1000002), zSf S 1) else (.inl (zrw2 S e n k i), S)) else (.inl (-1000001), zSf S 0)
section
variable {X : zX} {C : zC} {d n : Nat} {L : zLt} {S : zSt} {T : zTb} {I : Nat → Nat → Int}
theorem zx_misled (hL : zLay L) (ho : zSOK n S) {e m k : Int} : zHX X L (d + 13) 89 [.inl e, .inl m, .inl k] S (zr_misled S e m k) := by
  intro I hr
  have h14 := ho.1.2.2.2.2.1
  have h0 := ho.1.1
  have e2 : I 2 2 = (S.1.2.1 : Int) := hr.1.2.2.1
  have hb := zq_X_isEye (X := X) (d := d + 10) (σ := (I, L)) (v := e)
  have hc := zq_X_within (X := X) (d := d + 11) (σ := (I, L)) (v := m) (a := 1) (b := 4)
  have hd := zq_X_isKind (X := X) (d := d + 10) (σ := (I, L)) (v := k)
  obtain ⟨J, h1, h2, h3⟩ := zX_tellc (X := X) (d := d + 11) (k := 0) (c := -1000001) hL ho (by omega) (by omega) hr
  unfold zr_misled
  by_cases he : 0 ≤ e ∧ e ≤ 3
  · rw [if_pos he] at hb
    by_cases hm : 1 ≤ m ∧ m ≤ 4
    · rw [if_pos hm] at hc
      by_cases hk : 0 ≤ k ∧ k ≤ 6
      · rw [if_pos hk] at hd
        rw [if_pos ⟨he, hm, hk⟩]
        by_cases hf : 14 < (S.1.2.1 : Int) + m
        · obtain ⟨J', k1, k2, k3⟩ := zX_tellc (X := X) (d := d + 11) (k := 1) (c := -1000002) hL ho (by omega) (by omega) hr
          rw [if_pos hf]
          refine ⟨J', ?_, k2, k3⟩
          refine ((zcal_go zp_X_misled rfl).trans zb_X_misled_0).trans ?_
          simp only [if_true, if_false, Option.bind_some, Option.bind, Option.toList, List.cons_append, List.nil_append, zite0, zite1, zite01, znn, ite_not, true_or, or_true, true_and, and_true, zn10, zn00, zk_1 hL, zr_1_0 hL, zk_2 hL, hb, hc, hd, zb_X_misled_4, zb_X_misled_13, zb_X_misled_20, e2, show w32 ((S.1.2.1 : Int) + m) = (S.1.2.1 : Int) + m from zw32 (by omega) (by omega), eq_true hf, k1, zb_X_misled_51]
        · rw [if_neg hf]
          have hw : Unit → w32 ((S.1.2.1 : Int) + m) = (S.1.2.1 : Int) + m := fun _ => zw32 (by omega) (by omega)
          have hc0 : S.1.1 0 = ((S.1.1 0).toNat : Int) := (Int.toNat_of_nonneg (by omega)).symm
          obtain ⟨e, rfl⟩ := Int.eq_ofNat_of_zero_le he.1
          obtain ⟨m, rfl⟩ := Int.eq_ofNat_of_zero_le (show 0 ≤ m by omega)
          obtain ⟨I', q1, q2, q3, q4⟩ := zh_start (X := X) (d := d) (k := k) hL hr.1 ho.1 hc0 (show e < 4 by omega) (show 1 ≤ m by omega) (by omega) (by omega)
          refine ⟨I', ?_, zRX_scr ho q4 hr, fun a ha => q4 a (by omega)⟩
          refine ((zcal_go zp_X_misled rfl).trans zb_X_misled_0).trans ?_
          simp only [if_true, if_false, Option.bind_some, Option.bind, Option.toList, List.cons_append, List.nil_append, zite0, zite1, zite01, znn, ite_not, true_or, or_true, true_and, and_true, zn10, zn00, zk_1 hL, zr_1_0 hL, zk_2 hL, zr_1_6 hL, zr_1_4 hL, zk_117 hL, hb, hc, hd, zb_X_misled_4, zb_X_misled_13, zb_X_misled_20, e2, hw (), eq_false hf, q1, zb_X_misled_71, q2]
          try rfl
      · rw [if_neg hk] at hd
        rw [if_neg (fun h => hk h.2.2)]
        refine ⟨J, ?_, h2, h3⟩
        refine ((zcal_go zp_X_misled rfl).trans zb_X_misled_0).trans ?_
        simp only [if_true, if_false, Option.bind_some, Option.bind, Option.toList, List.cons_append, List.nil_append, zite0, zite1, zite01, znn, ite_not, true_or, or_true, true_and, and_true, zn10, zn00, zk_1 hL, zr_1_0 hL, zk_2 hL, hb, hc, hd, zb_X_misled_4, zb_X_misled_13, zb_X_misled_20, h1, zb_X_misled_29]
    · rw [if_neg hm] at hc
      rw [if_neg (fun h => hm h.2.1)]
      refine ⟨J, ?_, h2, h3⟩
      refine ((zcal_go zp_X_misled rfl).trans zb_X_misled_0).trans ?_
      simp only [if_true, if_false, Option.bind_some, Option.bind, Option.toList, List.cons_append, List.nil_append, zite0, zite1, zite01, znn, ite_not, true_or, or_true, true_and, and_true, zn10, zn00, zk_1 hL, zr_1_0 hL, zk_2 hL, hb, hc, zb_X_misled_4, zb_X_misled_13, h1, zb_X_misled_29]
  · rw [if_neg he] at hb
    rw [if_neg (fun h => he h.1)]
    refine ⟨J, ?_, h2, h3⟩
    refine ((zcal_go zp_X_misled rfl).trans zb_X_misled_0).trans ?_
    simp only [if_true, if_false, Option.bind_some, Option.bind, Option.toList, List.cons_append, List.nil_append, zite0, zite1, zite01, znn, ite_not, true_or, or_true, true_and, and_true, zn10, zn00, zk_1 hL, zr_1_0 hL, zk_2 hL, hb, zb_X_misled_4, h1, zb_X_misled_29]
theorem zx_row (hL : zLay L) (ho : zSOK n S) {e m k i : Int} (hmi : zint m) : zHX X L (d + 13) 90 [.inl e, .inl m, .inl k, .inl i] S (zr_row S e m k i) := by
  intro I hr
  have h14 := ho.1.2.2.2.2.1
  have h0 := ho.1.1
  have e2 : I 2 2 = (S.1.2.1 : Int) := hr.1.2.2.1
  have hb := zq_X_isEye (X := X) (d := d + 10) (σ := (I, L)) (v := e)
  have hc := zq_X_within (X := X) (d := d + 11) (σ := (I, L)) (v := m) (a := 1) (b := 4)
  have hd := zq_X_isKind (X := X) (d := d + 10) (σ := (I, L)) (v := k)
  have hg := zq_X_within (X := X) (d := d + 11) (σ := (I, L)) (v := i) (a := 0) (b := m - 1)
  obtain ⟨J, h1, h2, h3⟩ := zX_tellc (X := X) (d := d + 11) (k := 0) (c := -1000001) hL ho (by omega) (by omega) hr
  unfold zr_row
  by_cases he : 0 ≤ e ∧ e ≤ 3
  · rw [if_pos he] at hb
    by_cases hm : 1 ≤ m ∧ m ≤ 4
    · rw [if_pos hm] at hc
      have hwm : Unit → w32 (m - 1) = m - 1 := fun _ => zw32 (by omega) (by omega)
      by_cases hk : 0 ≤ k ∧ k ≤ 6
      · rw [if_pos hk] at hd
        by_cases hi : 0 ≤ i ∧ i ≤ m - 1
        · rw [if_pos hi] at hg
          rw [if_pos ⟨he, hm, hk, hi⟩]
          by_cases hf : 14 < (S.1.2.1 : Int) + m
          · obtain ⟨J', k1, k2, k3⟩ := zX_tellc (X := X) (d := d + 11) (k := 1) (c := -1000002) hL ho (by omega) (by omega) hr
            rw [if_pos hf]
            refine ⟨J', ?_, k2, k3⟩
            refine ((zcal_go zp_X_row rfl).trans zb_X_row_0).trans ?_
            simp only [if_true, if_false, Option.bind_some, Option.bind, Option.toList, List.cons_append, List.nil_append, zite0, zite1, zite01, znn, ite_not, true_or, or_true, true_and, and_true, zn10, zn00, zk_1 hL, zr_1_0 hL, zk_2 hL, hb, hc, hd, hwm (), hg, zb_X_row_4, zb_X_row_13, zb_X_row_20, zb_X_row_32, e2, show w32 ((S.1.2.1 : Int) + m) = (S.1.2.1 : Int) + m from zw32 (by omega) (by omega), eq_true hf, k1, zb_X_row_62]
          · rw [if_neg hf]
            have hw : Unit → w32 ((S.1.2.1 : Int) + m) = (S.1.2.1 : Int) + m := fun _ => zw32 (by omega) (by omega)
            have hc0 : S.1.1 0 = ((S.1.1 0).toNat : Int) := (Int.toNat_of_nonneg (by omega)).symm
            obtain ⟨e, rfl⟩ := Int.eq_ofNat_of_zero_le he.1
            obtain ⟨m, rfl⟩ := Int.eq_ofNat_of_zero_le (show 0 ≤ m by omega)
            obtain ⟨i, rfl⟩ := Int.eq_ofNat_of_zero_le hi.1
            obtain ⟨I', q1, q2, q3, q4⟩ := zh_start (X := X) (d := d) (k := k) hL hr.1 ho.1 hc0 (show e < 4 by omega) (show 1 ≤ m by omega) (by omega) (by omega)
            have q3 := q3 i (by omega)
            have g119 : ((L.2.1 119).1 = 2 ∧ 0 ≤ (i : Int) ∧ (i : Int) < ((L.2.1 119).2.1 : Int)) = True := by
              rw [zk_119 hL]
              exact eq_true ⟨rfl, by omega, show (i : Int) < ((4 : Nat) : Int) by omega⟩
            refine ⟨I', ?_, zRX_scr ho q4 hr, fun a ha => q4 a (by omega)⟩
            refine ((zcal_go zp_X_row rfl).trans zb_X_row_0).trans ?_
            simp only [if_true, if_false, Option.bind_some, Option.bind, Option.toList, List.cons_append, List.nil_append, zite0, zite1, zite01, znn, ite_not, true_or, or_true, true_and, and_true, zn10, zn00, zk_1 hL, zr_1_0 hL, zk_2 hL, zr_1_6 hL, zr_1_4 hL, zk_117 hL, hb, hc, hd, hwm (), hg, zb_X_row_4, zb_X_row_13, zb_X_row_20, zb_X_row_32, e2, hw (), eq_false hf, q1, zb_X_row_81, zr_117_5 hL, g119, Int.toNat_natCast, q3]
            try rfl
        · rw [if_neg hi] at hg
          rw [if_neg (fun h => hi h.2.2.2)]
          refine ⟨J, ?_, h2, h3⟩
          refine ((zcal_go zp_X_row rfl).trans zb_X_row_0).trans ?_
          simp only [if_true, if_false, Option.bind_some, Option.bind, Option.toList, List.cons_append, List.nil_append, zite0, zite1, zite01, znn, ite_not, true_or, or_true, true_and, and_true, zn10, zn00, zk_1 hL, zr_1_0 hL, zk_2 hL, hb, hc, hd, hwm (), hg, zb_X_row_4, zb_X_row_13, zb_X_row_20, zb_X_row_32, h1, zb_X_row_41]
      · rw [if_neg hk] at hd
        rw [if_neg (fun h => hk h.2.2.1)]
        refine ⟨J, ?_, h2, h3⟩
        refine ((zcal_go zp_X_row rfl).trans zb_X_row_0).trans ?_
        simp only [if_true, if_false, Option.bind_some, Option.bind, Option.toList, List.cons_append, List.nil_append, zite0, zite1, zite01, znn, ite_not, true_or, or_true, true_and, and_true, zn10, zn00, zk_1 hL, zr_1_0 hL, zk_2 hL, hb, hc, hd, zb_X_row_4, zb_X_row_13, zb_X_row_20, h1, zb_X_row_41]
    · rw [if_neg hm] at hc
      rw [if_neg (fun h => hm h.2.1)]
      refine ⟨J, ?_, h2, h3⟩
      refine ((zcal_go zp_X_row rfl).trans zb_X_row_0).trans ?_
      simp only [if_true, if_false, Option.bind_some, Option.bind, Option.toList, List.cons_append, List.nil_append, zite0, zite1, zite01, znn, ite_not, true_or, or_true, true_and, and_true, zn10, zn00, zk_1 hL, zr_1_0 hL, zk_2 hL, hb, hc, zb_X_row_4, zb_X_row_13, h1, zb_X_row_41]
  · rw [if_neg he] at hb
    rw [if_neg (fun h => he h.1)]
    refine ⟨J, ?_, h2, h3⟩
    refine ((zcal_go zp_X_row rfl).trans zb_X_row_0).trans ?_
    simp only [if_true, if_false, Option.bind_some, Option.bind, Option.toList, List.cons_append, List.nil_append, zite0, zite1, zite01, znn, ite_not, true_or, or_true, true_and, and_true, zn10, zn00, zk_1 hL, zr_1_0 hL, zk_2 hL, hb, zb_X_row_4, h1, zb_X_row_41]
end
