/-! CONTRACTS OF CALLS: eye, player. -/
section
variable {X : zX} {C : zC} {d n : Nat} {L : zLt} {S : zSt}
def zr_eye (S : zSt) (e w v : Int) : zV × zSt := if (0 ≤ e ∧ e ≤ 3) ∧ (0 ≤ w ∧ w ≤ 1) ∧ (0 ≤ v ∧ v ≤ (if w = 0 then 10 else S.1.1 0 - 1)) then (.inl (S.1.1 (47 + 2 * e.toNat + w.toNat)), zS1 S (zTset S.1 (47 + 2 * e.toNat + w.toNat) v)) else (.inl (-1000001), zSf S 0)
theorem zx_eye (hL : zLay L) (ho : zSOK n S) {e w v : Int} : zHX X L (d + 3) 79 [.inl e, .inl w, .inl v] S (zr_eye S e w v) := by
  intro I hr
  have hb := zq_X_isEye (X := X) (d := d) (σ := (I, L)) (v := e)
  have hc := zq_X_within (X := X) (d := d + 1) (σ := (I, L)) (v := w) (a := 0) (b := 1)
  have hd := zq_X_within (X := X) (d := d + 1) (σ := (I, L)) (v := v) (a := 0) (b := 10)
  have hf := zq_X_isPlace (X := X) (d := d) (v := v) hL hr.1 ho.1
  obtain ⟨I', h1, h2, h3⟩ := zX_tellc (X := X) (d := d + 1) (k := 0) (c := -1000001) hL ho (by omega) (by omega) hr
  unfold zr_eye
  by_cases he : 0 ≤ e ∧ e ≤ 3
  · rw [if_pos he] at hb
    obtain ⟨m, rfl⟩ := Int.eq_ofNat_of_zero_le he.1
    obtain ⟨l3, l4⟩ := zey hL (show m < 4 by omega)
    have p0 : I (21 + m) 0 = S.1.1 (47 + 2 * m) := (hr.1.2.2.2.2.2.2.1 m (by omega)).1
    have p1 : I (21 + m) 1 = S.1.1 (48 + 2 * m) := (hr.1.2.2.2.2.2.2.1 m (by omega)).2
    by_cases hw : 0 ≤ w ∧ w ≤ 1
    · rw [if_pos hw] at hc
      rcases (show w = 0 ∨ w = 1 by omega) with rfl | rfl
      · by_cases hv : 0 ≤ v ∧ v ≤ 10
        · rw [if_pos hv] at hd
          rw [if_pos ⟨he, hw, hv.1, by rw [if_pos rfl]; exact hv.2⟩]
          refine ⟨zwI I (21 + m) 0 v, ?_, zRX_T ho (zkeepX_2 (by omega)) (zTC_eye (t := 2) (k := 0) (by omega) (by omega) ho.1.2.2.2.2.1 hr.1) hr, fun a ha => zwI_row (by omega)⟩
          refine ((zcal_go zp_X_eye rfl).trans zb_X_eye_0).trans ?_
          simp only [if_true, if_false, Option.bind_some, Option.bind, Option.toList, List.cons_append, List.nil_append, zite0, zite1, zite01, znn, ite_not, true_or, or_true, true_and, and_true, zn10, zn00, zk_1 hL, zr_1_0 hL, zk_2 hL, hb, hc, hd, zb_X_eye_4, zb_X_eye_13, zb_X_eye_22, zb_X_eye_45, zb_X_eye_54, zb_X_eye_76, zb_X_eye_85, zr_2_6 hL, zc4 hL (show m < 4 by omega), Int.toNat_natCast, l3, l4, p0, zw_I]
          try rfl
        · rw [if_neg hv] at hd
          rw [if_neg (fun h => hv (by have := h.2.2; rw [if_pos rfl] at this; exact this))]
          refine ⟨I', ?_, h2, h3⟩
          refine ((zcal_go zp_X_eye rfl).trans zb_X_eye_0).trans ?_
          simp only [if_true, if_false, Option.bind_some, Option.bind, Option.toList, List.cons_append, List.nil_append, zite0, zite1, zite01, znn, ite_not, true_or, or_true, true_and, and_true, zn10, zn00, zk_1 hL, zr_1_0 hL, zk_2 hL, hb, hc, hd, zb_X_eye_4, zb_X_eye_13, zb_X_eye_22, zb_X_eye_45, zb_X_eye_54, zb_X_eye_76, zb_X_eye_85, zr_2_6 hL, zc4 hL (show m < 4 by omega), Int.toNat_natCast, l3, l4, h1]
          try rfl
      · by_cases hv : 0 ≤ v ∧ v ≤ S.1.1 0 - 1
        · rw [if_pos hv] at hf
          rw [if_pos ⟨he, hw, hv.1, by rw [if_neg (by decide)]; exact hv.2⟩]
          refine ⟨zwI I (21 + m) 1 v, ?_, zRX_T ho (zkeepX_2 (by omega)) (zTC_eye (t := 2) (k := 1) (by omega) (by omega) ho.1.2.2.2.2.1 hr.1) hr, fun a ha => zwI_row (by omega)⟩
          refine ((zcal_go zp_X_eye rfl).trans zb_X_eye_0).trans ?_
          simp only [if_true, if_false, Option.bind_some, Option.bind, Option.toList, List.cons_append, List.nil_append, zite0, zite1, zite01, znn, ite_not, true_or, or_true, true_and, and_true, zn10, zn00, zk_1 hL, zr_1_0 hL, zk_2 hL, hb, hc, hf, zb_X_eye_4, zb_X_eye_13, zb_X_eye_22, zb_X_eye_45, zb_X_eye_54, zb_X_eye_76, zb_X_eye_85, zr_2_6 hL, zc4 hL (show m < 4 by omega), Int.toNat_natCast, l3, l4, p1, zw_I]
          rw [show 48 + 2 * m = 47 + 2 * m + 1 by omega]
          rfl
        · rw [if_neg hv] at hf
          rw [if_neg (fun h => hv (by have := h.2.2; rw [if_neg (by decide)] at this; exact this))]
          refine ⟨I', ?_, h2, h3⟩
          refine ((zcal_go zp_X_eye rfl).trans zb_X_eye_0).trans ?_
          simp only [if_true, if_false, Option.bind_some, Option.bind, Option.toList, List.cons_append, List.nil_append, zite0, zite1, zite01, znn, ite_not, true_or, or_true, true_and, and_true, zn10, zn00, zk_1 hL, zr_1_0 hL, zk_2 hL, hb, hc, hf, zb_X_eye_4, zb_X_eye_13, zb_X_eye_22, zb_X_eye_45, zb_X_eye_54, zb_X_eye_76, zb_X_eye_85, zr_2_6 hL, zc4 hL (show m < 4 by omega), Int.toNat_natCast, l3, l4, h1]
          try rfl
    · rw [if_neg hw] at hc
      rw [if_neg (fun h => hw h.2.1)]
      refine ⟨I', ?_, h2, h3⟩
      refine ((zcal_go zp_X_eye rfl).trans zb_X_eye_0).trans ?_
      simp only [if_true, if_false, Option.bind_some, Option.bind, Option.toList, List.cons_append, List.nil_append, zite0, zite1, zite01, znn, ite_not, true_or, or_true, true_and, and_true, zn10, zn00, zk_1 hL, zr_1_0 hL, zk_2 hL, hb, hc, zb_X_eye_4, zb_X_eye_13, zb_X_eye_22, zb_X_eye_45, zb_X_eye_54, zb_X_eye_76, zb_X_eye_85, h1]
      try rfl
  · rw [if_neg he] at hb
    rw [if_neg (fun h => he h.1)]
    refine ⟨I', ?_, h2, h3⟩
    refine ((zcal_go zp_X_eye rfl).trans zb_X_eye_0).trans ?_
    simp only [if_true, if_false, Option.bind_some, Option.bind, Option.toList, List.cons_append, List.nil_append, zite0, zite1, zite01, znn, ite_not, true_or, or_true, true_and, and_true, zn10, zn00, zk_1 hL, zr_1_0 hL, zk_2 hL, hb, zb_X_eye_4, zb_X_eye_13, zb_X_eye_22, zb_X_eye_45, zb_X_eye_54, zb_X_eye_76, zb_X_eye_85, h1]
    try rfl
theorem zm_eye (hL : zLay L) (ho : zSOK n S) {e w v : Int} : zHM X L (d + 3) 168 [.inl e, .inl w, .inl v] S (zr_eye S e w v) := by
  intro I hr
  have hcu : I 136 0 = S.1.1 0 := hr.1.1 0 (by omega)
  have e0 : w32 (I 136 0 - 1) = S.1.1 0 - 1 := by rw [hcu]; have := ho.1.1; unfold w32; omega
  have hb := zq_M_isFour (X := X) (d := d) (σ := (I, L)) (v := e)
  have hc := zq_M_in (X := X) (d := d + 1) (σ := (I, L)) (v := w) (a := 0) (b := 1)
  have hd := zq_M_in (X := X) (d := d + 1) (σ := (I, L)) (v := v) (a := 0) (b := 10)
  have hf := zq_M_in (X := X) (d := d + 1) (σ := (I, L)) (v := v) (a := 0) (b := S.1.1 0 - 1)
  obtain ⟨I', h1, h2, h3⟩ := zM_findsc (X := X) (d := d + 1) (k := 0) (c := -1000001) (k' := 0) hL ho (by omega) (by omega) (by omega) hr
  unfold zr_eye
  by_cases he : 0 ≤ e ∧ e ≤ 3
  · rw [if_pos he] at hb
    obtain ⟨m, rfl⟩ := Int.eq_ofNat_of_zero_le he.1
    by_cases hw : 0 ≤ w ∧ w ≤ 1
    · rw [if_pos hw] at hc
      obtain ⟨k, rfl⟩ := Int.eq_ofNat_of_zero_le hw.1
      have e1 : w32 ((w32 (47 + (w32 (2 * (m : Int))))) + (k : Int)) = ((47 + 2 * m + k : Nat) : Int) := by unfold w32; omega
      have p0 : I 136 (47 + 2 * m + k) = S.1.1 (47 + 2 * m + k) := hr.1.1 _ (by omega)
      by_cases hk : (k : Int) = 0
      · by_cases hv : 0 ≤ v ∧ v ≤ 10
        · rw [if_pos hv] at hd
          rw [if_pos ⟨he, hw, hv.1, by rw [if_pos hk]; exact hv.2⟩]
          refine ⟨zwI I 136 (47 + 2 * m + k) v, ?_, zRM_T zkeepM_136 (zTM_set (by omega) ho.1.2.2.2.2.1 hr.1) hr, fun a ha => zwI_row (by omega)⟩
          refine ((zcal_go zp_M_eye rfl).trans zb_M_eye_0).trans ?_
          simp only [if_true, if_false, Option.bind_some, Option.bind, Option.toList, List.cons_append, List.nil_append, zite0, zite1, zite01, znn, ite_not, true_or, or_true, true_and, and_true, zn10, zn00, zk_135 hL, zr_135_0 hL, z6_0 hL, z6_1 hL, z6_2 hL, z6_3 hL, z6_4 hL, hb, hc, eq_true hk, hd, e0, zb_M_eye_4, zb_M_eye_14, zb_M_eye_42, zb_M_eye_50, e1, zd136 hL (show 0 ≤ ((47 + 2 * m + k : Nat) : Int) ∧ ((47 + 2 * m + k : Nat) : Int) < 96 by omega), Int.toNat_natCast, p0, zw_I]
          try rfl
        · rw [if_neg hv] at hd
          rw [if_neg (fun h => hv (by have := h.2.2; rw [if_pos hk] at this; exact this))]
          refine ⟨I', ?_, h2, h3⟩
          refine ((zcal_go zp_M_eye rfl).trans zb_M_eye_0).trans ?_
          simp only [if_true, if_false, Option.bind_some, Option.bind, Option.toList, List.cons_append, List.nil_append, zite0, zite1, zite01, znn, ite_not, true_or, or_true, true_and, and_true, zn10, zn00, zk_135 hL, zr_135_0 hL, z6_0 hL, z6_1 hL, z6_2 hL, z6_3 hL, z6_4 hL, hb, hc, eq_true hk, hd, e0, zb_M_eye_4, zb_M_eye_14, zb_M_eye_42, zb_M_eye_50, h1]
          try rfl
      · by_cases hv : 0 ≤ v ∧ v ≤ S.1.1 0 - 1
        · rw [if_pos hv] at hf
          rw [if_pos ⟨he, hw, hv.1, by rw [if_neg hk]; exact hv.2⟩]
          refine ⟨zwI I 136 (47 + 2 * m + k) v, ?_, zRM_T zkeepM_136 (zTM_set (by omega) ho.1.2.2.2.2.1 hr.1) hr, fun a ha => zwI_row (by omega)⟩
          refine ((zcal_go zp_M_eye rfl).trans zb_M_eye_0).trans ?_
          simp only [if_true, if_false, Option.bind_some, Option.bind, Option.toList, List.cons_append, List.nil_append, zite0, zite1, zite01, znn, ite_not, true_or, or_true, true_and, and_true, zn10, zn00, zk_135 hL, zr_135_0 hL, z6_0 hL, z6_1 hL, z6_2 hL, z6_3 hL, z6_4 hL, hb, hc, eq_false hk, hf, e0, zb_M_eye_4, zb_M_eye_14, zb_M_eye_42, zb_M_eye_50, e1, zd136 hL (show 0 ≤ ((47 + 2 * m + k : Nat) : Int) ∧ ((47 + 2 * m + k : Nat) : Int) < 96 by omega), Int.toNat_natCast, p0, zw_I]
          try rfl
        · rw [if_neg hv] at hf
          rw [if_neg (fun h => hv (by have := h.2.2; rw [if_neg hk] at this; exact this))]
          refine ⟨I', ?_, h2, h3⟩
          refine ((zcal_go zp_M_eye rfl).trans zb_M_eye_0).trans ?_
          simp only [if_true, if_false, Option.bind_some, Option.bind, Option.toList, List.cons_append, List.nil_append, zite0, zite1, zite01, znn, ite_not, true_or, or_true, true_and, and_true, zn10, zn00, zk_135 hL, zr_135_0 hL, z6_0 hL, z6_1 hL, z6_2 hL, z6_3 hL, z6_4 hL, hb, hc, eq_false hk, hf, e0, zb_M_eye_4, zb_M_eye_14, zb_M_eye_42, zb_M_eye_50, h1]
          try rfl
    · rw [if_neg hw] at hc
      rw [if_neg (fun h => hw h.2.1)]
      refine ⟨I', ?_, h2, h3⟩
      refine ((zcal_go zp_M_eye rfl).trans zb_M_eye_0).trans ?_
      simp only [if_true, if_false, Option.bind_some, Option.bind, Option.toList, List.cons_append, List.nil_append, zite0, zite1, zite01, znn, ite_not, true_or, or_true, true_and, and_true, zn10, zn00, zk_135 hL, zr_135_0 hL, z6_0 hL, z6_1 hL, z6_2 hL, z6_3 hL, z6_4 hL, hb, hc, zb_M_eye_4, zb_M_eye_14, zb_M_eye_42, zb_M_eye_50, h1]
      try rfl
  · rw [if_neg he] at hb
    rw [if_neg (fun h => he h.1)]
    refine ⟨I', ?_, h2, h3⟩
    refine ((zcal_go zp_M_eye rfl).trans zb_M_eye_0).trans ?_
    simp only [if_true, if_false, Option.bind_some, Option.bind, Option.toList, List.cons_append, List.nil_append, zite0, zite1, zite01, znn, ite_not, true_or, or_true, true_and, and_true, zn10, zn00, zk_135 hL, zr_135_0 hL, z6_0 hL, z6_1 hL, z6_2 hL, z6_3 hL, z6_4 hL, hb, zb_M_eye_4, zb_M_eye_14, zb_M_eye_42, zb_M_eye_50, h1]
    try rfl
theorem zo_eye (ho : zSOK n S) (hn : n < 100000) {e w v : Int} : zSOK (n + 1) (zr_eye S e w v).2 := by
  unfold zr_eye
  refine zif2 (fun h => ?_) (fun _ => ?_)
  · obtain ⟨⟨e1, e2⟩, ⟨w1, w2⟩, v1, v2⟩ := h
    obtain ⟨h1, h2⟩ := zSOK_up ho hn
    obtain ⟨m, rfl⟩ := Int.eq_ofNat_of_zero_le e1
    obtain ⟨k, rfl⟩ := Int.eq_ofNat_of_zero_le w1
    refine ⟨?_, h2⟩
    show zTOK (n + 1) (zTset S.1 (47 + 2 * m + k) v)
    refine zTOK_set (by omega) (by omega) (by omega) (by omega) (fun q hq => ⟨fun hj => ⟨v1, ?_⟩, fun hj => ⟨v1, ?_⟩⟩) (fun p hp => ⟨by omega, by omega, by omega, by omega⟩) (fun s hs hj => by omega) h1
    · rw [if_pos (by omega)] at v2; exact v2
    · rw [if_neg (by omega)] at v2; omega
  · exact zSOK_f ho (by omega) hn
theorem zA9 (hL : zLay L) : zA_9 X L := fun n a1 a2 a3 _ _ _ S ho hn => zCI (zr_eye S a1 a2 a3) (by unfold zr_eye; repeat' (first | exact ⟨_, rfl⟩ | refine zif1 ?_ ?_)) (zx_eye (d := 37) hL ho) (zm_eye (d := 37) hL ho) (zo_eye ho hn)
/-- what a player's numbers may be told to be -/
def zleast (w : Int) : Int := if w = 0 then 0 else 1
def zmost (w : Int) : Int := if w = 0 then 9999 else if w = 1 then 99 else 9
def zr_player (S : zSt) (p w v : Int) : zV × zSt := if (0 ≤ p ∧ p ≤ 3) ∧ (0 ≤ w ∧ w ≤ 2) ∧ (zleast w ≤ v ∧ v ≤ zmost w) then (.inl (S.1.1 (55 + 4 * p.toNat + w.toNat)), zS1 S (zTset S.1 (55 + 4 * p.toNat + w.toNat) v)) else (.inl (-1000001), zSf S 0)
theorem zq_become (hL : zLay L) {I : Nat → Nat → Int} {p w : Nat} {v : Int} (hp : p < 4) (hw : w < 3) : zcal X zP (d + 1) 15 [.inr (.inr (.inl (25 + p))), .inl (w : Int), .inl v] (I, L) = some (none, (zwI I (25 + p) w v, L)) := by
  obtain ⟨-, l4⟩ := zpl hL hp
  refine ((zcal_go zp_Player_become rfl).trans zb_Player_become_0).trans ?_
  rcases (show w = 0 ∨ w = 1 ∨ w = 2 by omega) with rfl | rfl | rfl
  · refine (zb_Player_become_1_0).trans ?_
    simp only [if_true, if_false, Option.bind_some, Option.bind, Option.toList, List.cons_append, List.nil_append, zite0, zite1, zite01, znn, ite_not, true_or, or_true, true_and, and_true, zn10, zn00, l4, zw_I]
  · refine (zb_Player_become_1_1).trans ?_
    simp only [if_true, if_false, Option.bind_some, Option.bind, Option.toList, List.cons_append, List.nil_append, zite0, zite1, zite01, znn, ite_not, true_or, or_true, true_and, and_true, zn10, zn00, l4, zw_I]
  · refine (zb_Player_become_1_d (by decide) (by decide)).trans ?_
    simp only [if_true, if_false, Option.bind_some, Option.bind, Option.toList, List.cons_append, List.nil_append, zite0, zite1, zite01, znn, ite_not, true_or, or_true, true_and, and_true, zn10, zn00, l4, zw_I, zb_Player_become_44]
theorem zx_player {N : Nat} {xs : Nat → Int32} (hL : zLay L) (ho : zSOK n S) {p w v : Int} : zHX (zXs N xs) L (d + 4) 95 [.inl p, .inl w, .inl v] S (zr_player S p w v) := by
  intro I hr
  have hb := zq_X_isPlayer (X := zXs N xs) (d := d + 1) (σ := (I, L)) (v := p)
  have hc := zq_X_within (X := zXs N xs) (d := d + 2) (σ := (I, L)) (v := w) (a := 0) (b := 2)
  have hd := zq_X_within (X := zXs N xs) (d := d + 2) (σ := (I, L)) (v := v) (a := zleast w) (b := zmost w)
  obtain ⟨I', h1, h2, h3⟩ := zX_tellc (X := zXs N xs) (d := d + 2) (k := 0) (c := -1000001) hL ho (by omega) (by omega) hr
  unfold zr_player
  by_cases he : 0 ≤ p ∧ p ≤ 3
  · rw [if_pos he] at hb
    obtain ⟨m, rfl⟩ := Int.eq_ofNat_of_zero_le he.1
    obtain ⟨l3, l4⟩ := zpl hL (show m < 4 by omega)
    by_cases hw : 0 ≤ w ∧ w ≤ 2
    · rw [if_pos hw] at hc
      obtain ⟨k, rfl⟩ := Int.eq_ofNat_of_zero_le hw.1
      have f2 : (2 < 4 ∧ 0 ≤ (k : Int) ∧ (k : Int) < (zXs N xs 2).1) = True := eq_true ⟨by omega, by omega, by show (k : Int) < ((3 : Nat) : Int); omega⟩
      have f3 : (3 < 4 ∧ 0 ≤ (k : Int) ∧ (k : Int) < (zXs N xs 3).1) = True := eq_true ⟨by omega, by omega, by show (k : Int) < ((3 : Nat) : Int); omega⟩
      have g2 : (zXs N xs 2).2 k = zleast (k : Int) := by
        rcases (show k = 0 ∨ k = 1 ∨ k = 2 by omega) with rfl | rfl | rfl <;> rfl
      have g3 : (zXs N xs 3).2 k = zmost (k : Int) := by
        rcases (show k = 0 ∨ k = 1 ∨ k = 2 by omega) with rfl | rfl | rfl <;> rfl
      by_cases hv : zleast (k : Int) ≤ v ∧ v ≤ zmost (k : Int)
      · rw [if_pos hv] at hd
        rw [if_pos ⟨he, hw, hv⟩]
        have hq := zq_tells (X := zXs N xs) (d := d) hL hr (show m < 4 by omega) (show k < 5 by omega)
        have hz := zq_become (X := zXs N xs) (d := d + 2) hL (I := I) (v := v) (show m < 4 by omega) (show k < 3 by omega)
        have hown : zown S.1 m k = S.1.1 (55 + 4 * m + k) := if_pos (by omega)
        rw [hown] at hq
        refine ⟨zwI I (25 + m) k v, ?_, zRX_T ho (zkeepX_2 (by omega)) (zTC_pl (t := 2) (by omega) (by omega) ho.1.2.2.2.2.1 hr.1) hr, fun a ha => zwI_row (by omega)⟩
        refine ((zcal_go zp_X_player rfl).trans zb_X_player_0).trans ?_
        simp only [if_true, if_false, Option.bind_some, Option.bind, Option.toList, List.cons_append, List.nil_append, zite0, zite1, zite01, znn, ite_not, true_or, or_true, true_and, and_true, zn10, zn00, zk_1 hL, zr_1_0 hL, zk_2 hL, hb, hc, f2, f3, Int.toNat_natCast, g2, g3, hd, zb_X_player_4, zb_X_player_13, zb_X_player_30, zb_X_player_39, zb_X_player_57, zb_X_player_66, zr_2_7 hL, zc5 hL (show m < 4 by omega), l3, l4, hq, hz]
        try rfl
      · rw [if_neg hv] at hd
        rw [if_neg (fun h => hv h.2.2)]
        refine ⟨I', ?_, h2, h3⟩
        refine ((zcal_go zp_X_player rfl).trans zb_X_player_0).trans ?_
        simp only [if_true, if_false, Option.bind_some, Option.bind, Option.toList, List.cons_append, List.nil_append, zite0, zite1, zite01, znn, ite_not, true_or, or_true, true_and, and_true, zn10, zn00, zk_1 hL, zr_1_0 hL, zk_2 hL, hb, hc, f2, f3, Int.toNat_natCast, g2, g3, hd, zb_X_player_4, zb_X_player_13, zb_X_player_30, zb_X_player_39, zb_X_player_57, zb_X_player_66, h1]
        try rfl
    · rw [if_neg hw] at hc
      rw [if_neg (fun h => hw h.2.1)]
      refine ⟨I', ?_, h2, h3⟩
      refine ((zcal_go zp_X_player rfl).trans zb_X_player_0).trans ?_
      simp only [if_true, if_false, Option.bind_some, Option.bind, Option.toList, List.cons_append, List.nil_append, zite0, zite1, zite01, znn, ite_not, true_or, or_true, true_and, and_true, zn10, zn00, zk_1 hL, zr_1_0 hL, zk_2 hL, hb, hc, zb_X_player_4, zb_X_player_13, zb_X_player_30, zb_X_player_39, zb_X_player_57, zb_X_player_66, h1]
      try rfl
  · rw [if_neg he] at hb
    rw [if_neg (fun h => he h.1)]
    refine ⟨I', ?_, h2, h3⟩
    refine ((zcal_go zp_X_player rfl).trans zb_X_player_0).trans ?_
    simp only [if_true, if_false, Option.bind_some, Option.bind, Option.toList, List.cons_append, List.nil_append, zite0, zite1, zite01, znn, ite_not, true_or, or_true, true_and, and_true, zn10, zn00, zk_1 hL, zr_1_0 hL, zk_2 hL, hb, zb_X_player_4, zb_X_player_13, zb_X_player_30, zb_X_player_39, zb_X_player_57, zb_X_player_66, h1]
    try rfl
theorem zq_M_sets (hL : zLay L) {I : Nat → Nat → Int} {p w : Nat} {v : Int} (hp : p < 4) (hw : w < 4) : zcal X zP (d + 1) 196 [.inr (.inr (.inl 135)), .inl (p : Int), .inl (w : Int), .inl v] (I, L) = some (none, (zwI I 136 (55 + 4 * p + w) v, L)) := by
  have e : w32 ((w32 (55 + (w32 (4 * (p : Int))))) + (w : Int)) = ((55 + 4 * p + w : Nat) : Int) := by unfold w32; omega
  refine ((zcal_go zp_M_sets rfl).trans zb_M_sets_0).trans ?_
  simp only [if_true, if_false, Option.bind_some, Option.bind, Option.toList, List.cons_append, List.nil_append, zite0, zite1, zite01, znn, ite_not, true_or, or_true, true_and, and_true, zn10, zn00, zk_135 hL, zr_135_0 hL, z6_0 hL, z6_1 hL, z6_2 hL, z6_3 hL, z6_4 hL, e, zd136 hL (show 0 ≤ ((55 + 4 * p + w : Nat) : Int) ∧ ((55 + 4 * p + w : Nat) : Int) < 96 by omega), Int.toNat_natCast, zw_I]
theorem zm_player (hL : zLay L) (ho : zSOK n S) {p w v : Int} : zHM X L (d + 3) 198 [.inl p, .inl w, .inl v] S (zr_player S p w v) := by
  intro I hr
  have hb := zq_M_isFour (X := X) (d := d) (σ := (I, L)) (v := p)
  have hc := zq_M_in (X := X) (d := d + 1) (σ := (I, L)) (v := w) (a := 0) (b := 2)
  have hd := zq_M_in (X := X) (d := d + 1) (σ := (I, L)) (v := v) (a := zleast w) (b := zmost w)
  obtain ⟨I', h1, h2, h3⟩ := zM_findsc (X := X) (d := d + 1) (k := 0) (c := -1000001) (k' := 0) hL ho (by omega) (by omega) (by omega) hr
  unfold zr_player
  by_cases he : 0 ≤ p ∧ p ≤ 3
  · rw [if_pos he] at hb
    obtain ⟨m, rfl⟩ := Int.eq_ofNat_of_zero_le he.1
    by_cases hw : 0 ≤ w ∧ w ≤ 2
    · rw [if_pos hw] at hc
      by_cases hv : zleast w ≤ v ∧ v ≤ zmost w
      · rw [if_pos hv] at hd
        rw [if_pos ⟨he, hw, hv⟩]
        refine ⟨zwI I 136 (55 + 4 * m + w.toNat) v, ?_, zRM_T zkeepM_136 (zTM_set (by omega) ho.1.2.2.2.2.1 hr.1) hr, fun a ha => zwI_row (by omega)⟩
        refine ((zcal_go zp_M_player rfl).trans zb_M_player_0).trans ?_
        rcases (show w = 0 ∨ w = 1 ∨ w = 2 by omega) with rfl | rfl | rfl
        · have hd : zcal X zP (d + 2) 141 [.inr (.inl v), .inr (.inl 0), .inr (.inl 9999)] (I, L) = _ := hd
          have hq : zcal X zP (d + 2) 195 [.inr (.inr (.inl 135)), .inl (m : Int), .inl 0] (I, L) = _ := zq_M_whose (w := 0) hL hr (show m < 4 by omega) (by omega)
          have hz : zcal X zP (d + 2) 196 [.inr (.inr (.inl 135)), .inl (m : Int), .inl 0, .inl v] (I, L) = _ := zq_M_sets (w := 0) hL (I := I) (v := v) (show m < 4 by omega) (by omega)
          simp only [if_true, if_false, Option.bind_some, Option.bind, Option.toList, List.cons_append, List.nil_append, zite0, zite1, zite01, znn, ite_not, true_or, or_true, true_and, and_true, zn10, zn00, zk_135 hL, zr_135_0 hL, z6_0 hL, z6_1 hL, z6_2 hL, z6_3 hL, z6_4 hL, hb, hc, hd, zb_M_player_4, zb_M_player_16, zb_M_player_57, zb_M_player_65, zb_M_player_72, zb_M_player_81, hq, hz]
          try rfl
        · have hd : zcal X zP (d + 2) 141 [.inr (.inl v), .inr (.inl 1), .inr (.inl 99)] (I, L) = _ := hd
          have hq : zcal X zP (d + 2) 195 [.inr (.inr (.inl 135)), .inl (m : Int), .inl 1] (I, L) = _ := zq_M_whose (w := 1) hL hr (show m < 4 by omega) (by omega)
          have hz : zcal X zP (d + 2) 196 [.inr (.inr (.inl 135)), .inl (m : Int), .inl 1, .inl v] (I, L) = _ := zq_M_sets (w := 1) hL (I := I) (v := v) (show m < 4 by omega) (by omega)
          simp only [if_true, if_false, Option.bind_some, Option.bind, Option.toList, List.cons_append, List.nil_append, zite0, zite1, zite01, znn, ite_not, true_or, or_true, true_and, and_true, zn10, zn00, zk_135 hL, zr_135_0 hL, z6_0 hL, z6_1 hL, z6_2 hL, z6_3 hL, z6_4 hL, hb, hc, eq_true (show (1 : Int) = 1 from rfl), hd, zb_M_player_4, zb_M_player_16, zb_M_player_57, zb_M_player_65, zb_M_player_72, zb_M_player_81, hq, hz]
          try rfl
        · have hd : zcal X zP (d + 2) 141 [.inr (.inl v), .inr (.inl 1), .inr (.inl 9)] (I, L) = _ := hd
          have hq : zcal X zP (d + 2) 195 [.inr (.inr (.inl 135)), .inl (m : Int), .inl 2] (I, L) = _ := zq_M_whose (w := 2) hL hr (show m < 4 by omega) (by omega)
          have hz : zcal X zP (d + 2) 196 [.inr (.inr (.inl 135)), .inl (m : Int), .inl 2, .inl v] (I, L) = _ := zq_M_sets (w := 2) hL (I := I) (v := v) (show m < 4 by omega) (by omega)
          simp only [if_true, if_false, Option.bind_some, Option.bind, Option.toList, List.cons_append, List.nil_append, zite0, zite1, zite01, znn, ite_not, true_or, or_true, true_and, and_true, zn10, zn00, zk_135 hL, zr_135_0 hL, z6_0 hL, z6_1 hL, z6_2 hL, z6_3 hL, z6_4 hL, hb, hc, eq_false (show ¬ (2 : Int) = 0 by decide), eq_false (show ¬ (2 : Int) = 1 by decide), hd, zb_M_player_4, zb_M_player_16, zb_M_player_57, zb_M_player_65, zb_M_player_72, zb_M_player_81, hq, hz]
          try rfl
      · rw [if_neg hv] at hd
        rw [if_neg (fun h => hv h.2.2)]
        refine ⟨I', ?_, h2, h3⟩
        refine ((zcal_go zp_M_player rfl).trans zb_M_player_0).trans ?_
        rcases (show w = 0 ∨ w = 1 ∨ w = 2 by omega) with rfl | rfl | rfl
        · have hd : zcal X zP (d + 2) 141 [.inr (.inl v), .inr (.inl 0), .inr (.inl 9999)] (I, L) = _ := hd
          simp only [if_true, if_false, Option.bind_some, Option.bind, Option.toList, List.cons_append, List.nil_append, zite0, zite1, zite01, znn, ite_not, true_or, or_true, true_and, and_true, zn10, zn00, zk_135 hL, zr_135_0 hL, z6_0 hL, z6_1 hL, z6_2 hL, z6_3 hL, z6_4 hL, hb, hc, hd, zb_M_player_4, zb_M_player_16, zb_M_player_57, zb_M_player_65, zb_M_player_72, zb_M_player_81, h1]
          try rfl
        · have hd : zcal X zP (d + 2) 141 [.inr (.inl v), .inr (.inl 1), .inr (.inl 99)] (I, L) = _ := hd
          simp only [if_true, if_false, Option.bind_some, Option.bind, Option.toList, List.cons_append, List.nil_append, zite0, zite1, zite01, znn, ite_not, true_or, or_true, true_and, and_true, zn10, zn00, zk_135 hL, zr_135_0 hL, z6_0 hL, z6_1 hL, z6_2 hL, z6_3 hL, z6_4 hL, hb, hc, eq_true (show (1 : Int) = 1 from rfl), hd, zb_M_player_4, zb_M_player_16, zb_M_player_57, zb_M_player_65, zb_M_player_72, zb_M_player_81, h1]
          try rfl
        · have hd : zcal X zP (d + 2) 141 [.inr (.inl v), .inr (.inl 1), .inr (.inl 9)] (I, L) = _ := hd
          simp only [if_true, if_false, Option.bind_some, Option.bind, Option.toList, List.cons_append, List.nil_append, zite0, zite1, zite01, znn, ite_not, true_or, or_true, true_and, and_true, zn10, zn00, zk_135 hL, zr_135_0 hL, z6_0 hL, z6_1 hL, z6_2 hL, z6_3 hL, z6_4 hL, hb, hc, eq_false (show ¬ (2 : Int) = 0 by decide), eq_false (show ¬ (2 : Int) = 1 by decide), hd, zb_M_player_4, zb_M_player_16, zb_M_player_57, zb_M_player_65, zb_M_player_72, zb_M_player_81, h1]
          try rfl
    · rw [if_neg hw] at hc
      rw [if_neg (fun h => hw h.2.1)]
      refine ⟨I', ?_, h2, h3⟩
      refine ((zcal_go zp_M_player rfl).trans zb_M_player_0).trans ?_
      simp only [if_true, if_false, Option.bind_some, Option.bind, Option.toList, List.cons_append, List.nil_append, zite0, zite1, zite01, znn, ite_not, true_or, or_true, true_and, and_true, zn10, zn00, zk_135 hL, zr_135_0 hL, z6_0 hL, z6_1 hL, z6_2 hL, z6_3 hL, z6_4 hL, hb, hc, zb_M_player_4, zb_M_player_16, zb_M_player_57, zb_M_player_65, zb_M_player_72, zb_M_player_81, h1]
      try rfl
  · rw [if_neg he] at hb
    rw [if_neg (fun h => he h.1)]
    refine ⟨I', ?_, h2, h3⟩
    refine ((zcal_go zp_M_player rfl).trans zb_M_player_0).trans ?_
    simp only [if_true, if_false, Option.bind_some, Option.bind, Option.toList, List.cons_append, List.nil_append, zite0, zite1, zite01, znn, ite_not, true_or, or_true, true_and, and_true, zn10, zn00, zk_135 hL, zr_135_0 hL, z6_0 hL, z6_1 hL, z6_2 hL, z6_3 hL, z6_4 hL, hb, zb_M_player_4, zb_M_player_16, zb_M_player_57, zb_M_player_65, zb_M_player_72, zb_M_player_81, h1]
    try rfl
theorem zo_player (ho : zSOK n S) (hn : n < 100000) {p w v : Int} : zSOK (n + 1) (zr_player S p w v).2 := by
  unfold zr_player
  split
  · next h =>
    obtain ⟨⟨e1, e2⟩, ⟨w1, w2⟩, v1, v2⟩ := h
    obtain ⟨h1, h2⟩ := zSOK_up ho hn
    obtain ⟨m, rfl⟩ := Int.eq_ofNat_of_zero_le e1
    refine ⟨?_, h2⟩
    show zTOK (n + 1) (zTset S.1 (55 + 4 * m + w.toNat) v)
    rcases (show w = 0 ∨ w = 1 ∨ w = 2 by omega) with rfl | rfl | rfl
    · have v1 : 0 ≤ v := v1
      have v2 : v ≤ 9999 := v2
      refine zTOK_set (by omega) (by omega) (by omega) (by omega) (fun q hq => ⟨by omega, by omega⟩) (fun p hp => ⟨by omega, by omega, by omega, by omega⟩) (fun s hs hj => by omega) h1
    · have v1 : 1 ≤ v := v1
      have v2 : v ≤ 99 := v2
      refine zTOK_set (by omega) (by omega) (by omega) (by omega) (fun q hq => ⟨by omega, by omega⟩) (fun p hp => ⟨by omega, by omega, by omega, by omega⟩) (fun s hs hj => by omega) h1
    · have v1 : 1 ≤ v := v1
      have v2 : v ≤ 9 := v2
      refine zTOK_set (by omega) (by omega) (by omega) (by omega) (fun q hq => ⟨by omega, by omega⟩) (fun p hp => ⟨by omega, by omega, by omega, by omega⟩) (fun s hs hj => by omega) h1
  · exact zSOK_f ho (by omega) hn
theorem zA25 {N : Nat} {xs : Nat → Int32} (hL : zLay L) : zA_25 (zXs N xs) L := fun n a1 a2 a3 _ _ _ S ho hn => zCI (zr_player S a1 a2 a3) (by unfold zr_player; repeat' (first | exact ⟨_, rfl⟩ | refine zif1 ?_ ?_)) (zx_player (d := 36) hL ho) (zm_player (d := 37) hL ho) (zo_player ho hn)
end
