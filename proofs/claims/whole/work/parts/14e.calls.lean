/-! CONTRACTS OF CALLS, closed: pass. -/
section
variable {X : zX} {d n : Nat} {L : zLt} {S : zSt}
def zr_pass (S : zSt) (k a b : Int) : zV × zSt := if (0 ≤ k ∧ k ≤ 6) ∧ (0 ≤ a ∧ a ≤ S.1.1 0 - 1) ∧ (0 ≤ b ∧ b ≤ S.1.1 0 - 1) ∧ a ≠ b then (if S.1.2.1 < 14 then (.inl (S.1.2.1 : Int), zS1 S (zTadd S.1 k a b)) else (.inl (-1000002), zSf S 1)) else (.inl (-1000001), zSf S 0)
theorem zx_pass (hL : zLay L) (ho : zSOK n S) {k a b : Int} : zHX X L (d + 3) 72 [.inl k, .inl a, .inl b] S (zr_pass S k a b) := by
  intro I hr
  have h14 := ho.1.2.2.2.2.1
  have hb := zq_X_isKind (X := X) (d := d) (σ := (I, L)) (v := k)
  have hc := zq_X_isPlace (X := X) (d := d) (v := a) hL hr.1 ho.1
  have hd := zq_X_isPlace (X := X) (d := d) (v := b) hL hr.1 ho.1
  have e : I 2 2 = (S.1.2.1 : Int) := hr.1.2.2.1
  obtain ⟨I', h1, h2, h3⟩ := zX_tellc (X := X) (d := d + 1) (k := 0) (c := -1000001) hL ho (by omega) (by omega) hr
  unfold zr_pass
  by_cases hk : 0 ≤ k ∧ k ≤ 6
  · rw [if_pos hk] at hb
    by_cases ha : 0 ≤ a ∧ a ≤ S.1.1 0 - 1
    · rw [if_pos ha] at hc
      by_cases hbb : 0 ≤ b ∧ b ≤ S.1.1 0 - 1
      · rw [if_pos hbb] at hd
        by_cases hab : a = b
        · rw [if_neg (fun h => h.2.2.2 hab)]
          refine ⟨I', ?_, h2, h3⟩
          refine ((zcal_go zp_X_pass rfl).trans zb_X_pass_0).trans ?_
          simp only [if_true, if_false, Option.bind_some, Option.bind, Option.toList, List.cons_append, List.nil_append, zite0, zite1, zite01, znn, ite_not, true_or, or_true, true_and, and_true, zk_1 hL, hb, zb_X_pass_4, hc, zb_X_pass_12, hd, zb_X_pass_20, hab, h1, zb_X_pass_34]
          rfl
        · rw [if_pos ⟨hk, ha, hbb, hab⟩]
          by_cases hn : S.1.2.1 < 14
          · rw [if_pos hn]
            have hq := zq_Table_add (X := X) (d := d) (k := k) (a := a) (b := b) (ztabL hL (Or.inl rfl)) hr.1 hn
            have e2 : zIadd I 2 S.1.2.1 k a b 2 2 = ((S.1.2.1 + 1 : Nat) : Int) := zwI_eq
            have e3 : w32 (((S.1.2.1 + 1 : Nat) : Int) - 1) = (S.1.2.1 : Int) := by unfold w32; omega
            refine ⟨zIadd I 2 S.1.2.1 k a b, ?_, zRX_T ho ⟨?_, fun c _ _ => zIadd_row (by omega) (by omega), ?_, zIadd_row (by omega) (by omega), zIadd_row (by omega) (by omega), fun c _ _ => zIadd_row (by omega) (by omega)⟩ (zTC_add hn hr.1) hr, fun c hc => zIadd_row (by omega) (by omega)⟩
            · refine ((zcal_go zp_X_pass rfl).trans zb_X_pass_0).trans ?_
              simp only [if_true, if_false, Option.bind_some, Option.bind, Option.toList, List.cons_append, List.nil_append, zite0, zite1, zite01, znn, ite_not, true_or, or_true, true_and, and_true, zk_1 hL, hb, zb_X_pass_4, hc, zb_X_pass_12, hd, zb_X_pass_20, hab, zr_1_0 hL, zk_2 hL, e, eq_true (show (S.1.2.1 : Int) < 14 by omega), hq, zb_X_pass_64, e2, e3]
              rfl
            · rw [zIadd_row (by omega) (by omega)]
            · rw [zIadd_row (by omega) (by omega)]
          · rw [if_neg hn]
            obtain ⟨I', h1, h2, h3⟩ := zX_tellc (X := X) (d := d + 1) (k := 1) (c := -1000002) hL ho (by omega) (by omega) hr
            refine ⟨I', ?_, h2, h3⟩
            refine ((zcal_go zp_X_pass rfl).trans zb_X_pass_0).trans ?_
            simp only [if_true, if_false, Option.bind_some, Option.bind, Option.toList, List.cons_append, List.nil_append, zite0, zite1, zite01, znn, ite_not, true_or, or_true, true_and, and_true, zk_1 hL, hb, zb_X_pass_4, hc, zb_X_pass_12, hd, zb_X_pass_20, hab, zr_1_0 hL, zk_2 hL, e, eq_false (show ¬ (S.1.2.1 : Int) < 14 by omega), h1, zb_X_pass_53]
            rfl
      · rw [if_neg hbb] at hd
        rw [if_neg (fun h => hbb h.2.2.1)]
        refine ⟨I', ?_, h2, h3⟩
        refine ((zcal_go zp_X_pass rfl).trans zb_X_pass_0).trans ?_
        simp only [if_true, if_false, Option.bind_some, Option.bind, Option.toList, List.cons_append, List.nil_append, zite0, zite1, zite01, znn, ite_not, true_or, or_true, true_and, and_true, zk_1 hL, hb, zb_X_pass_4, hc, zb_X_pass_12, hd, zb_X_pass_20, h1, zb_X_pass_34]
        rfl
    · rw [if_neg ha] at hc
      rw [if_neg (fun h => ha h.2.1)]
      refine ⟨I', ?_, h2, h3⟩
      refine ((zcal_go zp_X_pass rfl).trans zb_X_pass_0).trans ?_
      simp only [if_true, if_false, Option.bind_some, Option.bind, Option.toList, List.cons_append, List.nil_append, zite0, zite1, zite01, znn, ite_not, true_or, or_true, true_and, and_true, zk_1 hL, hb, zb_X_pass_4, hc, zb_X_pass_12, h1, zb_X_pass_34]
      rfl
  · rw [if_neg hk] at hb
    rw [if_neg (fun h => hk h.1)]
    refine ⟨I', ?_, h2, h3⟩
    refine ((zcal_go zp_X_pass rfl).trans zb_X_pass_0).trans ?_
    simp only [if_true, if_false, Option.bind_some, Option.bind, Option.toList, List.cons_append, List.nil_append, zite0, zite1, zite01, znn, ite_not, true_or, or_true, true_and, and_true, zk_1 hL, hb, zb_X_pass_4, h1, zb_X_pass_34]
theorem zm_pass (hL : zLay L) (ho : zSOK n S) {k a b : Int} : zHM X L (d + 3) 155 [.inl k, .inl a, .inl b] S (zr_pass S k a b) := by
  intro I hr
  have h14 := ho.1.2.2.2.2.1
  have hb := zq_M_in (X := X) (d := d + 1) (σ := (I, L)) (v := k) (a := 0) (b := 6)
  have hc := zq_M_isPlace (X := X) (d := d) (v := a) hL hr.1 ho.1
  have hd := zq_M_isPlace (X := X) (d := d) (v := b) hL hr.1 ho.1
  have e : I 136 1 = (S.1.2.1 : Int) := hr.1.2.1
  obtain ⟨I', h1, h2, h3⟩ := zM_findsc (X := X) (d := d + 1) (k := 0) (c := -1000001) (k' := 0) hL ho (by omega) (by omega) (by omega) hr
  unfold zr_pass
  by_cases hk : 0 ≤ k ∧ k ≤ 6
  · rw [if_pos hk] at hb
    by_cases ha : 0 ≤ a ∧ a ≤ S.1.1 0 - 1
    · rw [if_pos ha] at hc
      by_cases hbb : 0 ≤ b ∧ b ≤ S.1.1 0 - 1
      · rw [if_pos hbb] at hd
        by_cases hab : a = b
        · rw [if_neg (fun h => h.2.2.2 hab)]
          refine ⟨I', ?_, h2, h3⟩
          refine ((zcal_go zp_M_pass rfl).trans zb_M_pass_0).trans ?_
          simp only [if_true, if_false, Option.bind_some, Option.bind, Option.toList, List.cons_append, List.nil_append, zite0, zite1, zite01, znn, ite_not, true_or, or_true, true_and, and_true, zk_135 hL, hb, zb_M_pass_9, hc, zb_M_pass_17, hd, zb_M_pass_25, hab, h1, zb_M_pass_38]
          rfl
        · rw [if_pos ⟨hk, ha, hbb, hab⟩]
          by_cases hn : S.1.2.1 < 14
          · rw [if_pos hn]
            have hq := zq_M_comes (X := X) (d := d + 1) (k := k) (a := a) (b := b) hL hr.1 hn
            refine ⟨zJadd I S.1.2.1 k a b, ?_, zRM_T ?_ (zTM_add hn hr.1) hr, ?_⟩
            · refine ((zcal_go zp_M_pass rfl).trans zb_M_pass_0).trans ?_
              simp only [if_true, if_false, Option.bind_some, Option.bind, Option.toList, List.cons_append, List.nil_append, zite0, zite1, zite01, znn, ite_not, true_or, or_true, true_and, and_true, zk_135 hL, hb, zb_M_pass_9, hc, zb_M_pass_17, hd, zb_M_pass_25, hab, zr_135_0 hL, z6_1 hL, e, eq_false (show ¬ (S.1.2.1 : Int) = 14 by omega), hq, zb_M_pass_65]
              rfl
            · unfold zJadd
              have hrow : ∀ c, c ≠ 136 → zwI (zwI (zwI (zwI I 136 (5 + 3 * S.1.2.1) k) 136 (6 + 3 * S.1.2.1) a) 136 (7 + 3 * S.1.2.1) b) 136 1 ((S.1.2.1 + 1 : Nat) : Int) c = I c := fun c h => by rw [zwI_row h, zwI_row h, zwI_row h, zwI_row h]
              exact ⟨by rw [hrow 135 (by omega)], by rw [hrow 135 (by omega)], hrow _ (by omega), hrow _ (by omega), hrow _ (by omega), hrow _ (by omega), hrow _ (by omega), hrow _ (by omega)⟩
            · intro c hc
              unfold zJadd
              rw [zwI_row (by omega), zwI_row (by omega), zwI_row (by omega), zwI_row (by omega)]
          · rw [if_neg hn]
            obtain ⟨I', h1, h2, h3⟩ := zM_findsc (X := X) (d := d + 1) (k := 1) (c := -1000002) (k' := 1) hL ho (by omega) (by omega) (by omega) hr
            refine ⟨I', ?_, h2, h3⟩
            refine ((zcal_go zp_M_pass rfl).trans zb_M_pass_0).trans ?_
            simp only [if_true, if_false, Option.bind_some, Option.bind, Option.toList, List.cons_append, List.nil_append, zite0, zite1, zite01, znn, ite_not, true_or, or_true, true_and, and_true, zk_135 hL, hb, zb_M_pass_9, hc, zb_M_pass_17, hd, zb_M_pass_25, hab, zr_135_0 hL, z6_1 hL, e, eq_true (show (S.1.2.1 : Int) = 14 by omega), h1, zb_M_pass_55, zb_M_pass_65]
            rfl
      · rw [if_neg hbb] at hd
        rw [if_neg (fun h => hbb h.2.2.1)]
        refine ⟨I', ?_, h2, h3⟩
        refine ((zcal_go zp_M_pass rfl).trans zb_M_pass_0).trans ?_
        simp only [if_true, if_false, Option.bind_some, Option.bind, Option.toList, List.cons_append, List.nil_append, zite0, zite1, zite01, znn, ite_not, true_or, or_true, true_and, and_true, zk_135 hL, hb, zb_M_pass_9, hc, zb_M_pass_17, hd, zb_M_pass_25, h1, zb_M_pass_38]
        rfl
    · rw [if_neg ha] at hc
      rw [if_neg (fun h => ha h.2.1)]
      refine ⟨I', ?_, h2, h3⟩
      refine ((zcal_go zp_M_pass rfl).trans zb_M_pass_0).trans ?_
      simp only [if_true, if_false, Option.bind_some, Option.bind, Option.toList, List.cons_append, List.nil_append, zite0, zite1, zite01, znn, ite_not, true_or, or_true, true_and, and_true, zk_135 hL, hb, zb_M_pass_9, hc, zb_M_pass_17, h1, zb_M_pass_38]
      rfl
  · rw [if_neg hk] at hb
    rw [if_neg (fun h => hk h.1)]
    refine ⟨I', ?_, h2, h3⟩
    refine ((zcal_go zp_M_pass rfl).trans zb_M_pass_0).trans ?_
    simp only [if_true, if_false, Option.bind_some, Option.bind, Option.toList, List.cons_append, List.nil_append, zite0, zite1, zite01, znn, ite_not, true_or, or_true, true_and, and_true, zk_135 hL, hb, zb_M_pass_9, h1, zb_M_pass_38]
theorem zo_pass (ho : zSOK n S) (hn : n < 100000) {k a b : Int} : zSOK (n + 1) (zr_pass S k a b).2 := by
  unfold zr_pass
  split
  · next h =>
    split
    · next h2 =>
      obtain ⟨h3, h4⟩ := zSOK_up ho hn
      exact ⟨zTOK_add h2 h.1 h.2.1 h.2.2.1 h.2.2.2 h3, h4⟩
    · exact zSOK_f ho (by omega) hn
  · exact zSOK_f ho (by omega) hn
theorem zA2 (hL : zLay L) : zA_2 X L := fun n a1 a2 a3 _ _ _ S ho hn => zCI (zr_pass S a1 a2 a3) (by unfold zr_pass; split; split <;> exact ⟨_, rfl⟩; exact ⟨_, rfl⟩) (zx_pass (d := 37) hL ho) (zm_pass (d := 37) hL ho) (zo_pass ho hn)
end
