/-! MISLED, ROW: the reference's half; the contracts. -/
section
variable {X : zX} {C : zC} {d n : Nat} {L : zLt} {S : zSt} {T : zTb} {I : Nat → Nat → Int}
theorem zq_M_whyM (hL : zLay L) (hT : zTM I 136 T) (ho : zTOK n T) {e m k : Int} : zcal X zP (d + 3) 185 [.inr (.inr (.inl 135)), .inl e, .inl m, .inl k] (I, L) = some (some (.inl (if (0 ≤ e ∧ e ≤ 3) ∧ (1 ≤ m ∧ m ≤ 4) ∧ (0 ≤ k ∧ k ≤ 6) then (if 14 < (T.2.1 : Int) + m then 1 else -1) else 0)), (I, L)) := by
  have h14 := ho.2.2.2.2.1
  have e1 : I 136 1 = (T.2.1 : Int) := hT.2.1
  have hb := zq_M_isFour (X := X) (d := d) (σ := (I, L)) (v := e)
  have hc := zq_M_in (X := X) (d := d + 1) (σ := (I, L)) (v := m) (a := 1) (b := 4)
  have hd := zq_M_in (X := X) (d := d + 1) (σ := (I, L)) (v := k) (a := 0) (b := 6)
  by_cases he : 0 ≤ e ∧ e ≤ 3
  · rw [if_pos he] at hb
    by_cases hm : 1 ≤ m ∧ m ≤ 4
    · rw [if_pos hm] at hc
      by_cases hk : 0 ≤ k ∧ k ≤ 6
      · rw [if_pos hk] at hd
        rw [if_pos ⟨he, hm, hk⟩]
        by_cases hf : 14 < (T.2.1 : Int) + m
        · rw [if_pos hf]
          refine ((zcal_go zp_M_whyMisled rfl).trans zb_M_whyMisled_0).trans ?_
          simp only [if_true, if_false, Option.bind_some, Option.bind, Option.toList, List.cons_append, List.nil_append, zite0, zite1, zite01, znn, ite_not, true_or, or_true, true_and, and_true, zn10, zn00, zk_135 hL, zr_135_0 hL, z6_0 hL, z6_1 hL, z6_2 hL, z6_3 hL, z6_4 hL, hb, hc, hd, zb_M_whyMisled_4, zb_M_whyMisled_16, zb_M_whyMisled_28, e1, show w32 ((T.2.1 : Int) + m) = (T.2.1 : Int) + m from zw32 (by omega) (by omega), eq_true hf]
        · rw [if_neg hf]
          refine ((zcal_go zp_M_whyMisled rfl).trans zb_M_whyMisled_0).trans ?_
          simp only [if_true, if_false, Option.bind_some, Option.bind, Option.toList, List.cons_append, List.nil_append, zite0, zite1, zite01, znn, ite_not, true_or, or_true, true_and, and_true, zn10, zn00, zk_135 hL, zr_135_0 hL, z6_0 hL, z6_1 hL, z6_2 hL, z6_3 hL, z6_4 hL, hb, hc, hd, zb_M_whyMisled_4, zb_M_whyMisled_16, zb_M_whyMisled_28, e1, show w32 ((T.2.1 : Int) + m) = (T.2.1 : Int) + m from zw32 (by omega) (by omega), eq_false hf]
      · rw [if_neg hk] at hd
        rw [if_neg (fun h => hk h.2.2)]
        refine ((zcal_go zp_M_whyMisled rfl).trans zb_M_whyMisled_0).trans ?_
        simp only [if_true, if_false, Option.bind_some, Option.bind, Option.toList, List.cons_append, List.nil_append, zite0, zite1, zite01, znn, ite_not, true_or, or_true, true_and, and_true, zn10, zn00, zk_135 hL, zr_135_0 hL, z6_0 hL, z6_1 hL, z6_2 hL, z6_3 hL, z6_4 hL, hb, hc, hd, zb_M_whyMisled_4, zb_M_whyMisled_16, zb_M_whyMisled_28]
    · rw [if_neg hm] at hc
      rw [if_neg (fun h => hm h.2.1)]
      refine ((zcal_go zp_M_whyMisled rfl).trans zb_M_whyMisled_0).trans ?_
      simp only [if_true, if_false, Option.bind_some, Option.bind, Option.toList, List.cons_append, List.nil_append, zite0, zite1, zite01, znn, ite_not, true_or, or_true, true_and, and_true, zn10, zn00, zk_135 hL, zr_135_0 hL, z6_0 hL, z6_1 hL, z6_2 hL, z6_3 hL, z6_4 hL, hb, hc, zb_M_whyMisled_4, zb_M_whyMisled_16]
  · rw [if_neg he] at hb
    rw [if_neg (fun h => he h.1)]
    refine ((zcal_go zp_M_whyMisled rfl).trans zb_M_whyMisled_0).trans ?_
    simp only [if_true, if_false, Option.bind_some, Option.bind, Option.toList, List.cons_append, List.nil_append, zite0, zite1, zite01, znn, ite_not, true_or, or_true, true_and, and_true, zn10, zn00, zk_135 hL, zr_135_0 hL, z6_0 hL, z6_1 hL, z6_2 hL, z6_3 hL, z6_4 hL, hb, zb_M_whyMisled_4]
theorem zm_misled (hL : zLay L) (ho : zSOK n S) {e m k : Int} : zHM X L (d + 6) 186 [.inl e, .inl m, .inl k] S (zr_misled S e m k) := by
  intro I hr
  have h0 := ho.1.1
  have hy := zq_M_whyM (X := X) (d := d + 2) (e := e) (m := m) (k := k) hL hr.1 ho.1
  unfold zr_misled
  by_cases hA : (0 ≤ e ∧ e ≤ 3) ∧ (1 ≤ m ∧ m ≤ 4) ∧ (0 ≤ k ∧ k ≤ 6)
  · rw [if_pos hA] at hy
    rw [if_pos hA]
    by_cases hf : 14 < (S.1.2.1 : Int) + m
    · rw [if_pos hf] at hy
      rw [if_pos hf]
      obtain ⟨J, h1, h2, h3⟩ := zM_findsc (X := X) (d := d + 4) (k := 1) (c := -1000002) (k' := 1) hL ho (by omega) (by omega) (by omega) hr
      have hn1 : ((1 : Int) < 0) = False := eq_false (by decide)
      refine ⟨J, ?_, h2, h3⟩
      refine ((zcal_go zp_M_misled rfl).trans zb_M_misled_0).trans ?_
      simp only [if_true, if_false, Option.bind_some, Option.bind, Option.toList, List.cons_append, List.nil_append, zite0, zite1, zite01, znn, ite_not, true_or, or_true, true_and, and_true, zn10, zn00, zk_135 hL, zr_135_0 hL, z6_0 hL, z6_1 hL, z6_2 hL, z6_3 hL, z6_4 hL, hy, zb_M_misled_7, hn1, h1, zb_M_misled_20]
    · rw [if_neg hf] at hy
      rw [if_neg hf]
      have hc0 : S.1.1 0 = ((S.1.1 0).toNat : Int) := (Int.toNat_of_nonneg (by omega)).symm
      obtain ⟨⟨he1, he2⟩, ⟨hm1, hm2⟩, -⟩ := hA
      obtain ⟨e, rfl⟩ := Int.eq_ofNat_of_zero_le he1
      obtain ⟨m, rfl⟩ := Int.eq_ofNat_of_zero_le (show 0 ≤ m by omega)
      obtain ⟨I', q1, q2, q3, q4, q5⟩ := zq_M_findMisled (X := X) (d := d) (k := k) hL hr.1 ho.1 hc0 (show e < 4 by omega) (show 1 ≤ m by omega) (by omega) (by omega)
      have hn1 : ((-1 : Int) < 0) = True := eq_true (by decide)
      refine ⟨I', ?_, zRM_sc2 (fun a j _ h2 h3 => q5 a j h2 (by omega)) hr, fun a ha => funext fun j => q5 a j (by omega) (by omega)⟩
      refine ((zcal_go zp_M_misled rfl).trans zb_M_misled_0).trans ?_
      simp only [if_true, if_false, Option.bind_some, Option.bind, Option.toList, List.cons_append, List.nil_append, zite0, zite1, zite01, znn, ite_not, true_or, or_true, true_and, and_true, zn10, zn00, zk_135 hL, zr_135_0 hL, z6_0 hL, z6_1 hL, z6_2 hL, z6_3 hL, z6_4 hL, hy, zb_M_misled_7, hn1, q1, zb_M_misled_29, q2]
      try rfl
  · rw [if_neg hA] at hy
    rw [if_neg hA]
    obtain ⟨J, h1, h2, h3⟩ := zM_findsc (X := X) (d := d + 4) (k := 0) (c := -1000001) (k' := 0) hL ho (by omega) (by omega) (by omega) hr
    have hn1 : ((0 : Int) < 0) = False := eq_false (by decide)
    refine ⟨J, ?_, h2, h3⟩
    refine ((zcal_go zp_M_misled rfl).trans zb_M_misled_0).trans ?_
    simp only [if_true, if_false, Option.bind_some, Option.bind, Option.toList, List.cons_append, List.nil_append, zite0, zite1, zite01, znn, ite_not, true_or, or_true, true_and, and_true, zn10, zn00, zk_135 hL, zr_135_0 hL, z6_0 hL, z6_1 hL, z6_2 hL, z6_3 hL, z6_4 hL, hy, zb_M_misled_7, hn1, h1, zb_M_misled_20]
theorem zm_row (hL : zLay L) (ho : zSOK n S) {e m k i : Int} : zHM X L (d + 6) 187 [.inl e, .inl m, .inl k, .inl i] S (zr_row S e m k i) := by
  intro I hr
  have h0 := ho.1.1
  have hy := zq_M_whyM (X := X) (d := d + 2) (e := e) (m := m) (k := k) hL hr.1 ho.1
  have hg := zq_M_in (X := X) (d := d + 4) (σ := (I, L)) (v := i) (a := 0) (b := m - 1)
  obtain ⟨J, h1, h2, h3⟩ := zM_findsc (X := X) (d := d + 4) (k := 0) (c := -1000001) (k' := 0) hL ho (by omega) (by omega) (by omega) hr
  have hn10 : ((-1 : Int) = 0) = False := eq_false (by decide)
  have hn1 : ((-1 : Int) < 0) = True := eq_true (by decide)
  have hp1 : ((1 : Int) < 0) = False := eq_false (by decide)
  unfold zr_row
  by_cases hA : (0 ≤ e ∧ e ≤ 3) ∧ (1 ≤ m ∧ m ≤ 4) ∧ (0 ≤ k ∧ k ≤ 6)
  · rw [if_pos hA] at hy
    have hwm : Unit → w32 (m - 1) = m - 1 := fun _ => zw32 (by omega) (by omega)
    by_cases hi : 0 ≤ i ∧ i ≤ m - 1
    · rw [if_pos hi] at hg
      rw [if_pos ⟨hA.1, hA.2.1, hA.2.2, hi⟩]
      by_cases hf : 14 < (S.1.2.1 : Int) + m
      · rw [if_pos hf] at hy
        rw [if_pos hf]
        obtain ⟨J', k1, k2, k3⟩ := zM_findsc (X := X) (d := d + 4) (k := 1) (c := -1000002) (k' := 1) hL ho (by omega) (by omega) (by omega) hr
        refine ⟨J', ?_, k2, k3⟩
        refine ((zcal_go zp_M_row rfl).trans zb_M_row_0).trans ?_
        simp only [if_true, if_false, Option.bind_some, Option.bind, Option.toList, List.cons_append, List.nil_append, zite0, zite1, zite01, znn, ite_not, true_or, or_true, true_and, and_true, zn10, zn00, zk_135 hL, zr_135_0 hL, z6_0 hL, z6_1 hL, z6_2 hL, z6_3 hL, z6_4 hL, hy, zb_M_row_7, hwm (), hg, zb_M_row_25, hp1, k1, zb_M_row_45]
      · rw [if_neg hf] at hy
        rw [if_neg hf]
        have hc0 : S.1.1 0 = ((S.1.1 0).toNat : Int) := (Int.toNat_of_nonneg (by omega)).symm
        have hc37 : 3 ≤ (S.1.1 0).toNat ∧ (S.1.1 0).toNat < 7 := by omega
        obtain ⟨⟨he1, he2⟩, ⟨hm1, hm2⟩, -⟩ := hA
        obtain ⟨e, rfl⟩ := Int.eq_ofNat_of_zero_le he1
        obtain ⟨m, rfl⟩ := Int.eq_ofNat_of_zero_le (show 0 ≤ m by omega)
        obtain ⟨i, rfl⟩ := Int.eq_ofNat_of_zero_le hi.1
        obtain ⟨I', q1, q2, q3, q4, q5⟩ := zq_M_findMisled (X := X) (d := d) (k := k) hL hr.1 ho.1 hc0 (show e < 4 by omega) (show 1 ≤ m by omega) (by omega) (by omega)
        have hz := (zmq_e (k := k) ho.1 hc0 (show e < 4 by omega) (show S.1.2.1 + m ≤ 14 by omega) (by omega)).2.2
        have hP := zPP_in hc37.1 hc37.2
        have hPw := (zPP_w (c := (S.1.1 0).toNat) (m := m) hc37.1 hc37.2 (by omega)).2
        have hpo := zq_M_pairOf (X := X) (d := d + 4) (n := m) (I := I') hL q4.1 (by omega) (i := i) (r := (zmq S.1 (S.1.1 0).toNat e m k).2) (by omega) (by omega) (by omega)
        have hv : zrw2 S (e : Int) (m : Int) k (i : Int) = zcd (S.1.1 0).toNat ((zmq S.1 (S.1.1 0).toNat e m k).2 / zPP (S.1.1 0).toNat ^ (m - 1 - i) % zPP (S.1.1 0).toNat) := rfl
        have hjl := Nat.mod_lt ((zmq S.1 (S.1.1 0).toNat e m k).2 / zPP (S.1.1 0).toNat ^ (m - 1 - i)) (show 0 < zPP (S.1.1 0).toNat by omega)
        rw [hv]
        generalize hj : (zmq S.1 (S.1.1 0).toNat e m k).2 / zPP (S.1.1 0).toNat ^ (m - 1 - i) % zPP (S.1.1 0).toNat = j at *
        obtain ⟨p1, p2⟩ := q4.2 j hjl
        obtain ⟨hab, hbc⟩ := zpj_in hc37.2 hjl
        have hj15 : j < 15 := by omega
        have hx : Unit → w32 (w32 (10 * ((zpj (S.1.1 0).toNat j).1 : Int)) + ((zpj (S.1.1 0).toNat j).2 : Int)) = zcd (S.1.1 0).toNat j := fun _ => by
          unfold zcd
          generalize (zpj (S.1.1 0).toNat j).1 = a at *
          generalize (zpj (S.1.1 0).toNat j).2 = b at *
          rw [show w32 (10 * (a : Int)) = 10 * (a : Int) from zw32 (by omega) (by omega)]
          exact zw32 (by omega) (by omega)
        refine ⟨I', ?_, zRM_sc2 (fun a j _ h2 h3 => q5 a j h2 (by omega)) hr, fun a ha => funext fun j => q5 a j (by omega) (by omega)⟩
        refine ((zcal_go zp_M_row rfl).trans zb_M_row_0).trans ?_
        simp only [if_true, if_false, Option.bind_some, Option.bind, Option.toList, List.cons_append, List.nil_append, zite0, zite1, zite01, znn, ite_not, true_or, or_true, true_and, and_true, zn10, zn00, zk_135 hL, zr_135_0 hL, z6_0 hL, z6_1 hL, z6_2 hL, z6_3 hL, z6_4 hL, hy, zb_M_row_7, hwm (), hg, zb_M_row_25, hn10, hn1, q1, zb_M_row_53, q3, hpo, zb_M_row_64, zr_135_10 hL, zr_135_11 hL, zg144 hL hj15, zg145 hL hj15, Int.toNat_natCast, p1, p2, hx ()]
    · rw [if_neg hi] at hg
      rw [if_neg (fun h => hi h.2.2.2)]
      refine ⟨J, ?_, h2, h3⟩
      by_cases hf : 14 < (S.1.2.1 : Int) + m
      · rw [if_pos hf] at hy
        refine ((zcal_go zp_M_row rfl).trans zb_M_row_0).trans ?_
        simp only [if_true, if_false, Option.bind_some, Option.bind, Option.toList, List.cons_append, List.nil_append, zite0, zite1, zite01, znn, ite_not, true_or, or_true, true_and, and_true, zn10, zn00, zk_135 hL, zr_135_0 hL, z6_0 hL, z6_1 hL, z6_2 hL, z6_3 hL, z6_4 hL, hy, zb_M_row_7, hwm (), hg, zb_M_row_25, h1, zb_M_row_33]
      · rw [if_neg hf] at hy
        refine ((zcal_go zp_M_row rfl).trans zb_M_row_0).trans ?_
        simp only [if_true, if_false, Option.bind_some, Option.bind, Option.toList, List.cons_append, List.nil_append, zite0, zite1, zite01, znn, ite_not, true_or, or_true, true_and, and_true, zn10, zn00, zk_135 hL, zr_135_0 hL, z6_0 hL, z6_1 hL, z6_2 hL, z6_3 hL, z6_4 hL, hy, zb_M_row_7, hn10, hwm (), hg, zb_M_row_25, h1, zb_M_row_33]
  · rw [if_neg hA] at hy
    rw [if_neg (fun h => hA ⟨h.1, h.2.1, h.2.2.1⟩)]
    refine ⟨J, ?_, h2, h3⟩
    refine ((zcal_go zp_M_row rfl).trans zb_M_row_0).trans ?_
    simp only [if_true, if_false, Option.bind_some, Option.bind, Option.toList, List.cons_append, List.nil_append, zite0, zite1, zite01, znn, ite_not, true_or, or_true, true_and, and_true, zn10, zn00, zk_135 hL, zr_135_0 hL, z6_0 hL, z6_1 hL, z6_2 hL, z6_3 hL, z6_4 hL, hy, zb_M_row_7, h1, zb_M_row_33]
theorem zo_misled (ho : zSOK n S) (hn : n < 100000) {e m k : Int} : zSOK (n + 1) (zr_misled S e m k).2 := by
  unfold zr_misled
  exact zif2 (fun _ => zif2 (fun _ => zSOK_f ho (by omega) hn) (fun _ => zSOK_up ho hn)) (fun _ => zSOK_f ho (by omega) hn)
theorem zo_row (ho : zSOK n S) (hn : n < 100000) {e m k i : Int} : zSOK (n + 1) (zr_row S e m k i).2 := by
  unfold zr_row
  exact zif2 (fun _ => zif2 (fun _ => zSOK_f ho (by omega) hn) (fun _ => zSOK_up ho hn)) (fun _ => zSOK_f ho (by omega) hn)
theorem zA19 (hL : zLay L) : zA_19 X L := fun n a1 a2 a3 _ _ _ S ho hn => zCL (zr_misled S a1 a2 a3) (by unfold zr_misled; exact zif3 (zif3 ⟨_, rfl⟩ ⟨_, rfl⟩) ⟨_, rfl⟩) (zx_misled (d := 27) hL ho) (zm_misled (d := 34) hL ho) (zo_misled ho hn)
theorem zA20 (hL : zLay L) : zA_20 X L := fun n a1 a2 a3 a4 _ h2 _ _ S ho hn => zCI (zr_row S a1 a2 a3 a4) (by unfold zr_row; exact zif1 (zif1 ⟨_, rfl⟩ ⟨_, rfl⟩) ⟨_, rfl⟩) (zx_row (d := 27) hL ho h2) (zm_row (d := 34) hL ho) (zo_row ho hn)
end
