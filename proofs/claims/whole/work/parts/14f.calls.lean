/-! CONTRACTS OF CALLS, closed: hold. -/
theorem zTC_spot {I : Nat → Nat → Int} {t s : Nat} {v : Int} {T : zTb} (hs : s < 10) (h14 : T.2.1 ≤ 14) (h : zTC I t T) : zTC (zwI I (t + 4) s v) t (zTset T (71 + s) (v + 1)) := by
  obtain ⟨h1, h2, h3, h4, h5, h6, h7, h8, h9⟩ := h
  refine ⟨?_, ?_, (zwI_ne (by omega)).trans h3, ?_, ?_, fun i hi => ?_, fun e he => ?_, fun p q hp hq => ?_, fun j hj => ?_⟩
  · rw [zwI_ne (by omega), zTset_hi (by omega)]; exact h1
  · rw [zwI_ne (by omega), zTset_hi (by omega)]; exact h2
  · rw [zwI_ne (by omega), zTset_hi (by omega)]; exact h4
  · rw [zwI_ne (by omega), zTset_hi (by omega)]; exact h5
  · rw [zwI_row (by omega)]; exact h6 i hi
  · rw [zwI_row (by omega), zTset_hi (by omega), zTset_hi (by omega)]; exact h7 e he
  · rw [zwI_row (by omega), zTset_hi (by omega)]; exact h8 p q hp hq
  · by_cases e : j = s
    · rw [e, zwI_eq, zTset_eq]; omega
    · rw [zwI_nej e, zTset_hi (by omega)]; exact h9 j hj
section
variable {X : zX} {d n : Nat} {L : zLt} {S : zSt}
def zr_hold (S : zSt) (s p : Int) : zV × zSt := if (0 ≤ s ∧ s ≤ 9) ∧ (-1 ≤ p ∧ p ≤ (S.1.2.1 : Int) - 1) then (.inl 1, zS1 S (zTset S.1 (71 + s.toNat) (p + 1))) else (.inl (-1000001), zSf S 0)
theorem zx_hold (hL : zLay L) (ho : zSOK n S) {s p : Int} : zHX X L (d + 3) 108 [.inl s, .inl p] S (zr_hold S s p) := by
  intro I hr
  have h14 := ho.1.2.2.2.2.1
  have hb := zq_X_within (X := X) (d := d + 1) (σ := (I, L)) (v := s) (a := 0) (b := 9)
  have hc := zq_X_isPass (X := X) (d := d) (v := p) hL hr.1 ho.1
  obtain ⟨I', h1, h2, h3⟩ := zX_tellc (X := X) (d := d + 1) (k := 0) (c := -1000001) hL ho (by omega) (by omega) hr
  unfold zr_hold
  by_cases hs : 0 ≤ s ∧ s ≤ 9
  · rw [if_pos hs] at hb
    obtain ⟨m, rfl⟩ := Int.eq_ofNat_of_zero_le hs.1
    have hg : ((L.2.1 6).1 = 2 ∧ 0 ≤ (m : Int) ∧ (m : Int) < ((L.2.1 6).2.1 : Int)) = True := by
      rw [zk_6 hL]
      exact eq_true ⟨rfl, by omega, by show (m : Int) < ((10 : Nat) : Int); omega⟩
    by_cases hp : -1 ≤ p ∧ p ≤ (S.1.2.1 : Int) - 1
    · rw [if_pos ⟨hs, hp⟩]
      refine ⟨zwI I 6 m p, ?_, zRX_T ho (zkeepX_2 (by omega)) (zTC_spot (t := 2) (by omega) h14 hr.1) hr, fun a ha => zwI_row (by omega)⟩
      by_cases hq : p = -1
      · refine ((zcal_go zp_X_hold rfl).trans zb_X_hold_0).trans ?_
        simp only [if_true, if_false, Option.bind_some, Option.bind, Option.toList, List.cons_append, List.nil_append, zite0, zite1, zite01, znn, ite_not, true_or, or_true, true_and, and_true, hb, zb_X_hold_7, hq, zk_1 hL, zr_1_0 hL, zk_2 hL, zr_2_8 hL, hg, Int.toNat_natCast, zw_I]
        rfl
      · rw [if_pos (by omega)] at hc
        refine ((zcal_go zp_X_hold rfl).trans zb_X_hold_0).trans ?_
        simp only [if_true, if_false, Option.bind_some, Option.bind, Option.toList, List.cons_append, List.nil_append, zite0, zite1, zite01, znn, ite_not, true_or, or_true, true_and, and_true, hb, zb_X_hold_7, hq, zk_1 hL, hc, zb_X_hold_20, zr_1_0 hL, zk_2 hL, zr_2_8 hL, hg, Int.toNat_natCast, zw_I]
        rfl
    · rw [if_neg (show ¬ (0 ≤ p ∧ p ≤ (S.1.2.1 : Int) - 1) by omega)] at hc
      rw [if_neg (fun h => hp h.2)]
      refine ⟨I', ?_, h2, h3⟩
      refine ((zcal_go zp_X_hold rfl).trans zb_X_hold_0).trans ?_
      simp only [if_true, if_false, Option.bind_some, Option.bind, Option.toList, List.cons_append, List.nil_append, zite0, zite1, zite01, znn, ite_not, true_or, or_true, true_and, and_true, hb, zb_X_hold_7, show (p = -1) = False from eq_false (by omega), zk_1 hL, hc, zb_X_hold_20, h1, zb_X_hold_29]
      rfl
  · rw [if_neg hs] at hb
    rw [if_neg (fun h => hs h.1)]
    refine ⟨I', ?_, h2, h3⟩
    refine ((zcal_go zp_X_hold rfl).trans zb_X_hold_0).trans ?_
    simp only [if_true, if_false, Option.bind_some, Option.bind, Option.toList, List.cons_append, List.nil_append, zite0, zite1, zite01, znn, ite_not, true_or, or_true, true_and, and_true, hb, zb_X_hold_7, zk_1 hL, h1, zb_X_hold_29]
theorem zm_hold (hL : zLay L) (ho : zSOK n S) {s p : Int} : zHM X L (d + 3) 229 [.inl s, .inl p] S (zr_hold S s p) := by
  intro I hr
  have h14 := ho.1.2.2.2.2.1
  have hb := zq_M_in (X := X) (d := d + 1) (σ := (I, L)) (v := s) (a := 0) (b := 9)
  have e : w32 (I 136 1 - 1) = (S.1.2.1 : Int) - 1 := by rw [hr.1.2.1]; unfold w32; omega
  have hc := zq_M_in (X := X) (d := d + 1) (σ := (I, L)) (v := p) (a := -1) (b := (S.1.2.1 : Int) - 1)
  obtain ⟨I', h1, h2, h3⟩ := zM_findsc (X := X) (d := d + 1) (k := 0) (c := -1000001) (k' := 0) hL ho (by omega) (by omega) (by omega) hr
  unfold zr_hold
  by_cases hs : 0 ≤ s ∧ s ≤ 9
  · rw [if_pos hs] at hb
    obtain ⟨m, rfl⟩ := Int.eq_ofNat_of_zero_le hs.1
    by_cases hp : -1 ≤ p ∧ p ≤ (S.1.2.1 : Int) - 1
    · rw [if_pos ⟨hs, hp⟩]
      rw [if_pos hp] at hc
      have e3 : w32 (71 + (m : Int)) = ((71 + m : Nat) : Int) := by unfold w32; omega
      have e4 : w32 (p + 1) = p + 1 := by unfold w32; omega
      refine ⟨zwI I 136 (71 + m) (p + 1), ?_, zRM_T zkeepM_136 (zTM_set (by omega) h14 hr.1) hr, fun a ha => zwI_row (by omega)⟩
      refine ((zcal_go zp_M_hold rfl).trans zb_M_hold_0).trans ?_
      simp only [if_true, if_false, Option.bind_some, Option.bind, Option.toList, List.cons_append, List.nil_append, zite0, zite1, zite01, znn, ite_not, true_or, or_true, true_and, and_true, hb, zb_M_hold_9, zk_135 hL, zr_135_0 hL, z6_1 hL, e, hc, zb_M_hold_29, e3, zd136 hL (show 0 ≤ ((71 + m : Nat) : Int) ∧ ((71 + m : Nat) : Int) < 96 by omega), Int.toNat_natCast, zw_I, e4]
      rfl
    · rw [if_neg hp] at hc
      rw [if_neg (fun h => hp h.2)]
      refine ⟨I', ?_, h2, h3⟩
      refine ((zcal_go zp_M_hold rfl).trans zb_M_hold_0).trans ?_
      simp only [if_true, if_false, Option.bind_some, Option.bind, Option.toList, List.cons_append, List.nil_append, zite0, zite1, zite01, znn, ite_not, true_or, or_true, true_and, and_true, hb, zb_M_hold_9, zk_135 hL, zr_135_0 hL, z6_1 hL, e, hc, zb_M_hold_29, h1, zb_M_hold_37]
      rfl
  · rw [if_neg hs] at hb
    rw [if_neg (fun h => hs h.1)]
    refine ⟨I', ?_, h2, h3⟩
    refine ((zcal_go zp_M_hold rfl).trans zb_M_hold_0).trans ?_
    simp only [if_true, if_false, Option.bind_some, Option.bind, Option.toList, List.cons_append, List.nil_append, zite0, zite1, zite01, znn, ite_not, true_or, or_true, true_and, and_true, hb, zb_M_hold_9, zk_135 hL, h1, zb_M_hold_37]
theorem zo_hold (ho : zSOK n S) (hn : n < 100000) {s p : Int} : zSOK (n + 1) (zr_hold S s p).2 := by
  unfold zr_hold
  split
  · next h =>
    obtain ⟨h3, h4⟩ := zSOK_up ho hn
    refine ⟨?_, h4⟩
    obtain ⟨m, rfl⟩ := Int.eq_ofNat_of_zero_le h.1.1
    obtain ⟨a1, a2, a3, a4, a5, a6, a7, a8, a9⟩ := h3
    have e0 : ∀ w, w ≠ 71 + m → (zTset S.1 (71 + m) (p + 1)).1 w = S.1.1 w := fun w hw => zTset_hi hw
    refine ⟨?_, ?_, ?_, ?_, a5, fun i hi => ?_, fun q hq => ?_, fun q hq => ?_, fun j hj => ?_⟩
    · show 3 ≤ (zTset S.1 (71 + m) (p + 1)).1 0 ∧ (zTset S.1 (71 + m) (p + 1)).1 0 ≤ 6
      rw [e0 _ (by omega)]; exact a1
    · show -1 ≤ (zTset S.1 (71 + m) (p + 1)).1 2 ∧ (zTset S.1 (71 + m) (p + 1)).1 2 < (zTset S.1 (71 + m) (p + 1)).1 0
      rw [e0 _ (by omega), e0 _ (by omega)]; exact a2
    · show zint ((zTset S.1 (71 + m) (p + 1)).1 3)
      rw [e0 _ (by omega)]; exact a3
    · show -(200 * ((n + 1 : Nat) : Int)) ≤ (zTset S.1 (71 + m) (p + 1)).1 4 ∧ (zTset S.1 (71 + m) (p + 1)).1 4 ≤ 200 * ((n + 1 : Nat) : Int)
      rw [e0 _ (by omega)]; exact a4
    · have h0 : (zTset S.1 (71 + m) (p + 1)).1 0 = S.1.1 0 := e0 _ (by omega)
      have h1 := a6 i hi
      rw [← h0] at h1
      exact h1
    · have h0 : (zTset S.1 (71 + m) (p + 1)).1 0 = S.1.1 0 := e0 _ (by omega)
      have h1 := a7 q hq
      rw [← h0, ← e0 (47 + 2 * q) (by omega), ← e0 (48 + 2 * q) (by omega)] at h1
      exact h1
    · have h1 := a8 q hq
      rw [← e0 (55 + 4 * q) (by omega), ← e0 (56 + 4 * q) (by omega), ← e0 (57 + 4 * q) (by omega), ← e0 (58 + 4 * q) (by omega)] at h1
      exact h1
    · show 0 ≤ (zTset S.1 (71 + m) (p + 1)).1 (71 + j) ∧ (zTset S.1 (71 + m) (p + 1)).1 (71 + j) ≤ 14
      by_cases e : j = m
      · rw [e, zTset_eq]; omega
      · rw [e0 _ (by omega)]; exact a9 j hj
  · exact zSOK_f ho (by omega) hn
theorem zA38 (hL : zLay L) : zA_38 X L := fun n a1 a2 _ _ S ho hn => zCI (zr_hold S a1 a2) (by unfold zr_hold; split <;> exact ⟨_, rfl⟩) (zx_hold (d := 37) hL ho) (zm_hold (d := 37) hL ho) (zo_hold ho hn)
end
