/-! CALLS, HALF BY HALF: pea, where, goes, back, seed, wipe, tear. -/
theorem zd136 {L : zLt} (hL : zLay L) {i : Int} (h : 0 ≤ i ∧ i < 96) : ((L.2.1 136).1 = 2 ∧ 0 ≤ i ∧ i < ((L.2.1 136).2.1 : Int)) = True := by
  rw [zk_136 hL]
  exact eq_true ⟨rfl, h.1, h.2⟩
theorem z6_0 {L : zLt} (hL : zLay L) : ((L.2.1 136).1 = 2 ∧ 0 ≤ (0 : Int) ∧ (0 : Int) < ((L.2.1 136).2.1 : Int)) = True := zd136 hL (by decide)
theorem z6_1 {L : zLt} (hL : zLay L) : ((L.2.1 136).1 = 2 ∧ 0 ≤ (1 : Int) ∧ (1 : Int) < ((L.2.1 136).2.1 : Int)) = True := zd136 hL (by decide)
theorem z6_2 {L : zLt} (hL : zLay L) : ((L.2.1 136).1 = 2 ∧ 0 ≤ (2 : Int) ∧ (2 : Int) < ((L.2.1 136).2.1 : Int)) = True := zd136 hL (by decide)
theorem z6_3 {L : zLt} (hL : zLay L) : ((L.2.1 136).1 = 2 ∧ 0 ≤ (3 : Int) ∧ (3 : Int) < ((L.2.1 136).2.1 : Int)) = True := zd136 hL (by decide)
theorem z6_4 {L : zLt} (hL : zLay L) : ((L.2.1 136).1 = 2 ∧ 0 ≤ (4 : Int) ∧ (4 : Int) < ((L.2.1 136).2.1 : Int)) = True := zd136 hL (by decide)
theorem zTset_hi {T : zTb} {j w : Nat} {v : Int} (h : w ≠ j) : (zTset T j v).1 w = T.1 w := if_neg h
theorem zTset_eq {T : zTb} {j : Nat} {v : Int} : (zTset T j v).1 j = v := if_pos rfl
theorem zTOK_setj {n j : Nat} {T : zTb} {v : Int} (hj : j = 2 ∨ j = 3 ∨ j = 4) (h2 : j = 2 → -1 ≤ v ∧ v < T.1 0) (h3 : j = 3 → zint v) (h4 : j = 4 → -(200 * n : Int) ≤ v ∧ v ≤ 200 * n) (ho : zTOK n T) : zTOK n (zTset T j v) := by
  obtain ⟨a1, a2, a3, a4, a5, a6, a7, a8, a9⟩ := ho
  have e0 : (zTset T j v).1 0 = T.1 0 := zTset_hi (by omega)
  refine ⟨by rw [e0]; exact a1, ?_, ?_, ?_, a5, fun i hi => by rw [e0]; exact a6 i hi, fun e he => ?_, fun p hp => ?_, fun s hs => ?_⟩
  · rw [e0]
    by_cases e : j = 2
    · rw [e, zTset_eq]; exact h2 e
    · rw [zTset_hi (by omega)]; exact a2
  · by_cases e : j = 3
    · rw [e, zTset_eq]; exact h3 e
    · rw [zTset_hi (by omega)]; exact a3
  · by_cases e : j = 4
    · rw [e, zTset_eq]; exact h4 e
    · rw [zTset_hi (by omega)]; exact a4
  · rw [zTset_hi (by omega), zTset_hi (by omega), e0]; exact a7 e he
  · rw [zTset_hi (by omega), zTset_hi (by omega), zTset_hi (by omega), zTset_hi (by omega)]; exact a8 p hp
  · rw [zTset_hi (by omega)]; exact a9 s hs
section
variable {X : zX} {d n : Nat} {L : zLt} {S : zSt}
theorem zm_pea (hL : zLay L) (ho : zSOK n S) {p : Int} : zHM X L (d + 2) 153 [.inl p] S (zr_pea S p) := by
  intro I hr
  have e : w32 (I 136 0 - 1) = S.1.1 0 - 1 := by rw [hr.1.1 0 (by omega)]; have := ho.1.1; unfold w32; omega
  have hb := zq_M_in (X := X) (d := d) (σ := (I, L)) (v := p) (a := -1) (b := S.1.1 0 - 1)
  unfold zr_pea
  by_cases hp : -1 ≤ p ∧ p ≤ S.1.1 0 - 1
  · rw [if_pos hp] at hb ⊢
    refine ⟨zwI I 136 2 p, ?_, zRM_T zkeepM_136 (zTM_set (by omega) ho.1.2.2.2.2.1 hr.1) hr, fun a ha => zwI_row (by omega)⟩
    have e2 : I 136 2 = S.1.1 2 := hr.1.1 2 (by omega)
    refine ((zcal_go zp_M_pea rfl).trans zb_M_pea_0).trans ?_
    simp only [if_true, if_false, Option.bind_some, Option.bind, Option.toList, List.cons_append, List.nil_append, zite0, zite1, zite01, znn, ite_not, true_or, or_true, true_and, and_true, zk_135 hL, zr_135_0 hL, z6_0 hL, z6_1 hL, z6_2 hL, z6_3 hL, e, hb, zb_M_pea_17, e2, zw_I]
    rfl
  · rw [if_neg hp] at hb ⊢
    obtain ⟨I', h1, h2, h3⟩ := zM_findsc (X := X) (d := d) (k := 0) (c := -1000001) (k' := 0) hL ho (by omega) (by omega) (by omega) hr
    refine ⟨I', ?_, h2, h3⟩
    refine ((zcal_go zp_M_pea rfl).trans zb_M_pea_0).trans ?_
    simp only [if_true, if_false, Option.bind_some, Option.bind, Option.toList, List.cons_append, List.nil_append, zite0, zite1, zite01, znn, ite_not, true_or, or_true, true_and, and_true, zk_135 hL, zr_135_0 hL, z6_0 hL, z6_1 hL, z6_2 hL, z6_3 hL, e, hb, zb_M_pea_17, h1, zb_M_pea_25]
theorem zo_pea (ho : zSOK n S) (hn : n < 100000) {p : Int} : zSOK (n + 1) (zr_pea S p).2 := by
  unfold zr_pea
  split
  · next h =>
    obtain ⟨h1, h2⟩ := zSOK_up ho hn
    exact ⟨zTOK_setj (Or.inl rfl) (fun _ => ⟨h.1, by omega⟩) (fun e => by omega) (fun e => by omega) h1, h2⟩
  · exact zSOK_f ho (by omega) hn
def zr_where (S : zSt) (k : Int) : zV × zSt := if 0 ≤ k ∧ k ≤ (S.1.2.1 : Int) then (.inl (zpeaAt S.1 k.toNat), S) else (.inl (-1000001), zSf S 0)
theorem zx_where (hL : zLay L) (ho : zSOK n S) {k : Int} : zHX X L (d + 6) 76 [.inl k] S (zr_where S k) := by
  intro I hr
  have hb := zq_X_isBehind (X := X) (d := d + 3) (v := k) hL hr.1 ho.1
  unfold zr_where
  by_cases hp : 0 ≤ k ∧ k ≤ (S.1.2.1 : Int)
  · rw [if_pos hp] at hb ⊢
    obtain ⟨m, rfl⟩ := Int.eq_ofNat_of_zero_le hp.1
    have hq := zq_Table_peaBehind (X := X) (d := d) (ztabL hL (Or.inl rfl)) hr.1 ho.1 (k := m) (by omega)
    refine ⟨I, ?_, hr, fun a ha => rfl⟩
    refine ((zcal_go zp_X_where rfl).trans zb_X_where_0).trans ?_
    simp only [if_true, if_false, Option.bind_some, Option.bind, Option.toList, List.cons_append, List.nil_append, zite0, zite1, zite01, znn, ite_not, true_or, or_true, true_and, and_true, zk_1 hL, hb, zb_X_where_5, zr_1_0 hL, zk_2 hL, hq, zb_X_where_23, Int.toNat_natCast]
    rfl
  · rw [if_neg hp] at hb ⊢
    obtain ⟨I', h1, h2, h3⟩ := zX_tellc (X := X) (d := d + 4) (k := 0) (c := -1000001) hL ho (by omega) (by omega) hr
    refine ⟨I', ?_, h2, h3⟩
    refine ((zcal_go zp_X_where rfl).trans zb_X_where_0).trans ?_
    simp only [if_true, if_false, Option.bind_some, Option.bind, Option.toList, List.cons_append, List.nil_append, zite0, zite1, zite01, znn, ite_not, true_or, or_true, true_and, and_true, zk_1 hL, hb, zb_X_where_5, h1, zb_X_where_14]
theorem zm_where (hL : zLay L) (ho : zSOK n S) {k : Int} : zHM X L (d + 5) 160 [.inl k] S (zr_where S k) := by
  intro I hr
  have e : I 136 1 = (S.1.2.1 : Int) := hr.1.2.1
  have hb := zq_M_in (X := X) (d := d + 3) (σ := (I, L)) (v := k) (a := 0) (b := (S.1.2.1 : Int))
  unfold zr_where
  by_cases hp : 0 ≤ k ∧ k ≤ (S.1.2.1 : Int)
  · rw [if_pos hp] at hb ⊢
    obtain ⟨m, rfl⟩ := Int.eq_ofNat_of_zero_le hp.1
    have hq := zq_M_peaBehind (X := X) (d := d) hL hr.1 ho.1 (k := m) (by omega)
    refine ⟨I, ?_, hr, fun a ha => rfl⟩
    refine ((zcal_go zp_M_where rfl).trans zb_M_where_0).trans ?_
    simp only [if_true, if_false, Option.bind_some, Option.bind, Option.toList, List.cons_append, List.nil_append, zite0, zite1, zite01, znn, ite_not, true_or, or_true, true_and, and_true, zk_135 hL, zr_135_0 hL, z6_0 hL, z6_1 hL, z6_2 hL, z6_3 hL, e, hb, zb_M_where_13, hq, zb_M_where_21, zb_M_where_29, Int.toNat_natCast]
    rfl
  · rw [if_neg hp] at hb ⊢
    obtain ⟨I', h1, h2, h3⟩ := zM_findsc (X := X) (d := d + 3) (k := 0) (c := -1000001) (k' := 0) hL ho (by omega) (by omega) (by omega) hr
    refine ⟨I', ?_, h2, h3⟩
    refine ((zcal_go zp_M_where rfl).trans zb_M_where_0).trans ?_
    simp only [if_true, if_false, Option.bind_some, Option.bind, Option.toList, List.cons_append, List.nil_append, zite0, zite1, zite01, znn, ite_not, true_or, or_true, true_and, and_true, zk_135 hL, zr_135_0 hL, z6_0 hL, z6_1 hL, z6_2 hL, z6_3 hL, e, hb, zb_M_where_13, h1, zb_M_where_29]
theorem zo_where (ho : zSOK n S) (hn : n < 100000) {k : Int} : zSOK (n + 1) (zr_where S k).2 := by
  unfold zr_where
  split
  · exact zSOK_up ho hn
  · exact zSOK_f ho (by omega) hn
def zr_seed (S : zSt) (v : Int) : zV × zSt := (.inl (S.1.1 3), zS1 S (zTset S.1 3 v))
theorem zx_seed (hL : zLay L) (ho : zSOK n S) {v : Int} : zHX X L (d + 1) 104 [.inl v] S (zr_seed S v) := by
  intro I hr
  refine ⟨zwI I 2 4 v, ?_, zRX_T ho (zkeepX_2 (by omega)) (zTC_set (by omega) hr.1) hr, fun a ha => zwI_row (by omega)⟩
  have e : I 2 4 = S.1.1 3 := hr.1.2.2.2.2.1
  refine ((zcal_go zp_X_seed rfl).trans zb_X_seed_0).trans ?_
  simp only [if_true, if_false, Option.bind_some, Option.bind, Option.toList, List.cons_append, List.nil_append, zite0, zite1, zite01, znn, ite_not, true_or, or_true, true_and, and_true, zk_1 hL, zr_1_0 hL, zk_2 hL, e, zw_I, zr_seed]
theorem zm_seed (hL : zLay L) (ho : zSOK n S) {v : Int} : zHM X L (d + 1) 211 [.inl v] S (zr_seed S v) := by
  intro I hr
  refine ⟨zwI I 136 3 v, ?_, zRM_T zkeepM_136 (zTM_set (by omega) ho.1.2.2.2.2.1 hr.1) hr, fun a ha => zwI_row (by omega)⟩
  have e : I 136 3 = S.1.1 3 := hr.1.1 3 (by omega)
  refine ((zcal_go zp_M_seed rfl).trans zb_M_seed_0).trans ?_
  simp only [if_true, if_false, Option.bind_some, Option.bind, Option.toList, List.cons_append, List.nil_append, zite0, zite1, zite01, znn, ite_not, true_or, or_true, true_and, and_true, zk_135 hL, zr_135_0 hL, z6_0 hL, z6_1 hL, z6_2 hL, z6_3 hL, e, zw_I, zr_seed]
theorem zo_seed (ho : zSOK n S) (hn : n < 100000) {v : Int} (hv : zint v) : zSOK (n + 1) (zr_seed S v).2 := by
  obtain ⟨h1, h2⟩ := zSOK_up ho hn
  exact ⟨zTOK_setj (Or.inr (Or.inl rfl)) (fun e => by omega) (fun _ => hv) (fun e => by omega) h1, h2⟩
/-- a pass fewer -/
def zTback (T : zTb) : zTb := (T.1, (T.2.1 - 1, T.2.2))
def zr_back (S : zSt) : zV × zSt := if 0 < S.1.2.1 then (.inl ((S.1.2.1 : Int) - 1), zS1 S (zTback S.1)) else (.inl (-1000004), zSf S 3)
theorem zx_back (hL : zLay L) (ho : zSOK n S) : zHX X L (d + 2) 75 [] S (zr_back S) := by
  intro I hr
  have e : I 2 2 = (S.1.2.1 : Int) := hr.1.2.2.1
  have h14 := ho.1.2.2.2.2.1
  unfold zr_back
  by_cases hp : 0 < S.1.2.1
  · rw [if_pos hp]
    have e2 : w32 (I 2 2 - 1) = (S.1.2.1 : Int) - 1 := by rw [e]; unfold w32; omega
    refine ⟨zwI I 2 2 ((S.1.2.1 : Int) - 1), ?_, zRX_T ho (zkeepX_2 (by omega)) ?_ hr, fun a ha => zwI_row (by omega)⟩
    · refine ((zcal_go zp_X_back rfl).trans zb_X_back_0).trans ?_
      simp only [if_true, if_false, Option.bind_some, Option.bind, Option.toList, List.cons_append, List.nil_append, zite0, zite1, zite01, znn, ite_not, true_or, or_true, true_and, and_true, zk_1 hL, zr_1_0 hL, zk_2 hL, e2, zw_I, zwI_eq]
      rw [if_pos (by omega)]
    · obtain ⟨h1, h2, h3, h4, h5, h6, h7, h8, h9⟩ := hr.1
      refine ⟨(zwI_nej (by omega)).trans h1, (zwI_nej (by omega)).trans h2, ?_, (zwI_nej (by omega)).trans h4, (zwI_nej (by omega)).trans h5, fun i hi => ?_, fun k hk => ?_, fun p q hp hq => ?_, fun s hs => ?_⟩
      · show zwI I 2 2 _ 2 2 = ((S.1.2.1 - 1 : Nat) : Int)
        rw [zwI_eq]; omega
      · have : i < S.1.2.1 - 1 := hi
        rw [zwI_row (by omega)]; exact h6 i (by omega)
      · rw [zwI_row (by omega)]; exact h7 k hk
      · rw [zwI_row (by omega)]; exact h8 p q hp hq
      · rw [zwI_row (by omega)]; exact h9 s hs
  · rw [if_neg hp]
    obtain ⟨I', h1, h2, h3⟩ := zX_tellc (X := X) (d := d) (k := 3) (c := -1000004) hL ho (by omega) (by omega) hr
    refine ⟨I', ?_, h2, h3⟩
    refine ((zcal_go zp_X_back rfl).trans zb_X_back_0).trans ?_
    simp only [if_true, if_false, Option.bind_some, Option.bind, Option.toList, List.cons_append, List.nil_append, zite0, zite1, zite01, znn, ite_not, true_or, or_true, true_and, and_true, zk_1 hL, zr_1_0 hL, zk_2 hL, h1, zb_X_back_16]
    rw [if_neg (by omega)]
theorem zm_back (hL : zLay L) (ho : zSOK n S) : zHM X L (d + 2) 158 [] S (zr_back S) := by
  intro I hr
  have e : I 136 1 = (S.1.2.1 : Int) := hr.1.2.1
  have h14 := ho.1.2.2.2.2.1
  unfold zr_back
  by_cases hp : 0 < S.1.2.1
  · rw [if_pos hp]
    have e2 : w32 (I 136 1 - 1) = (S.1.2.1 : Int) - 1 := by rw [e]; unfold w32; omega
    refine ⟨zwI I 136 1 ((S.1.2.1 : Int) - 1), ?_, zRM_T zkeepM_136 ?_ hr, fun a ha => zwI_row (by omega)⟩
    · refine ((zcal_go zp_M_back rfl).trans zb_M_back_0).trans ?_
      simp only [zk_135 hL, zr_135_0 hL]
      simp only [if_true, if_false, Option.bind_some, Option.bind, Option.toList, List.cons_append, List.nil_append, zite0, zite1, zite01, znn, ite_not, true_or, or_true, true_and, and_true, z6_0 hL, z6_1 hL, z6_2 hL, z6_3 hL, e2, zw_I, zwI_eq]
      rw [if_neg (by omega)]
    · obtain ⟨h1, h2, h3⟩ := hr.1
      refine ⟨fun j hj => (zwI_nej (by omega)).trans (h1 j hj), ?_, fun i hi => ?_⟩
      · show zwI I 136 1 _ 136 1 = ((S.1.2.1 - 1 : Nat) : Int)
        rw [zwI_eq]; omega
      · have : i < S.1.2.1 - 1 := hi
        rw [zwI_nej (by omega), zwI_nej (by omega), zwI_nej (by omega)]; exact h3 i (by omega)
  · rw [if_neg hp]
    obtain ⟨I', h1, h2, h3⟩ := zM_findsc (X := X) (d := d) (k := 3) (c := -1000004) (k' := 3) hL ho (by omega) (by omega) (by omega) hr
    refine ⟨I', ?_, h2, h3⟩
    refine ((zcal_go zp_M_back rfl).trans zb_M_back_0).trans ?_
    simp only [if_true, if_false, Option.bind_some, Option.bind, Option.toList, List.cons_append, List.nil_append, zite0, zite1, zite01, znn, ite_not, true_or, or_true, true_and, and_true, zk_135 hL, zr_135_0 hL, z6_0 hL, z6_1 hL, z6_2 hL, z6_3 hL, h1, zb_M_back_14]
    rw [if_pos (by omega)]
theorem zo_back (ho : zSOK n S) (hn : n < 100000) : zSOK (n + 1) (zr_back S).2 := by
  unfold zr_back
  split
  · obtain ⟨h1, h2⟩ := zSOK_up ho hn
    refine ⟨?_, h2⟩
    obtain ⟨a1, a2, a3, a4, a5, a6, a7, a8, a9⟩ := h1
    exact ⟨a1, a2, a3, a4, by show S.1.2.1 - 1 ≤ 14; omega, fun i hi => a6 i (by have : i < S.1.2.1 - 1 := hi; omega), a7, a8, a9⟩
  · exact zSOK_f ho (by omega) hn
end
