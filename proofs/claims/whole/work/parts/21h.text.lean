/-! CONTRACTS OF CALLS, closed: text. -/
/-- what a text makes -/
def zrtx (X : zX) (S : zSt) : Int × zTb := zrdz X S.2.2.2.1.2 S.2.2.2.1.1 120 1 (ztk S.2.2.2.1.2 S.2.2.2.1.1 0) S.1
def zr_text (X : zX) (S : zSt) : zV × zSt := (.inl (zrtx X S).1, ((if (zrtx X S).1 < 0 then S.1 else (zrtx X S).2), (S.2.1, (S.2.2.1, ((0, S.2.2.2.1.2), S.2.2.2.2)))))
theorem zwx_ok {N : Nat} {xs : Nat → Int32} : zWX (zXs N xs) := by
  have h : ∀ k, k < 15 → 0 < (zchars (k + 4)).length ∧ (zchars (k + 4)).length ≤ 100 := by decide +kernel
  intro x h4 h18
  obtain ⟨k, rfl⟩ : ∃ k, x = k + 4 := ⟨x - 4, by omega⟩
  have e : zXs N xs (k + 4) = ((zchars (k + 4)).length, fun i => ((zchars (k + 4)).getD i 0).toInt) := if_pos (by omega)
  rw [e]
  exact h k (by omega)
theorem zxc_ok {N : Nat} {xs : Nat → Int32} : zXC (zXs N xs) := by
  have h : ∀ k, k < 15 → (∀ i, i < (zchars (k + 4)).length → zLr ((zchars (k + 4)).getD i 0).toInt) ∧ zcwd (fun i => ((zchars (k + 4)).getD i 0).toInt) (zchars (k + 4)).length = zcod (k + 4) := by decide +kernel
  intro x h4 h18
  obtain ⟨k, rfl⟩ : ∃ k, x = k + 4 := ⟨x - 4, by omega⟩
  have e : zXs N xs (k + 4) = ((zchars (k + 4)).length, fun i => ((zchars (k + 4)).getD i 0).toInt) := if_pos (by omega)
  rw [e]
  exact h k (by omega)
theorem zx23_ok {N : Nat} {xs : Nat → Int32} : zX23 (zXs N xs) := by
  refine ⟨rfl, rfl, fun w hw => ?_⟩
  rcases (show w = 0 ∨ w = 1 ∨ w = 2 by omega) with rfl | rfl | rfl
  · exact ⟨rfl, rfl⟩
  · exact ⟨rfl, rfl⟩
  · exact ⟨rfl, rfl⟩
section
variable {X : zX} {C : zC} {d n nn : Nat} {L : zLt} {S : zSt} {I : Nat → Nat → Int}
theorem zRX_tx {S : zSt} {T : zTb} {I I' : Nat → Nat → Int} (ho : zSOK n S) (h : zRX I S) (hT : zTC I' 2 T) (h0 : I' 123 1 = 0) (hf : ∀ a, (a < 2 ∨ 29 ≤ a) → (a < 56 ∨ 83 ≤ a) → a ≠ 123 → I' a = I a) : zRX I' (T, (S.2.1, (S.2.2.1, ((0, S.2.2.2.1.2), S.2.2.2.2)))) := by
  obtain ⟨h1, h2, h3, h4, h5, h6, h7⟩ := h
  refine ⟨hT, by rw [hf 1 (by omega) (by omega) (by omega)]; exact h2, fun e => zTC_row (ho.2.2.1 e).2.2.2.2.1 (fun a h1 h2 => hf a (by omega) (by omega) (by omega)) (h3 e), h0, fun j hj => absurd hj (by show ¬ j < 0; omega), fun s hs => ?_, fun k hk => by rw [hf 126 (by omega) (by omega) (by omega)]; exact h7 k hk⟩
  rw [hf (127 + 2 * s) (by omega) (by omega) (by omega), hf (128 + 2 * s) (by omega) (by omega) (by omega)]
  exact h6 s hs
theorem zBy_S (ho : zSOK n S) : zBy S.2.2.2.1.2 S.2.2.2.1.1 := ⟨ho.2.2.2.1, fun j _ => ho.2.2.2.2.1 j⟩
theorem zx_text (hL : zLay L) (hX : zWX X) (h23 : zX23 X) (ho : zSOK n S) : zHX X L (d + 7) 107 [] S (zr_text X S) := by
  intro I hr
  have h14 := ho.1.2.2.2.2.1
  obtain ⟨I1, a1, a2, a3⟩ := zq_become_t (X := X) (d := d + 4) (ztabL hL (t := 56) (by omega)) (ztabL hL (t := 2) (by omega)) (by omega) hr.1 h14
  obtain ⟨I2, b1, b2, b3, b4⟩ := zq_readOnto (X := X) (d := d) (I := I1) hL hX h23 (zBy_S ho) (by rw [a3 124 (by omega)]; exact hr.2.2.2.2.1) (by rw [a3 123 (by omega)]; exact hr.2.2.2.1) ho.1 a2
  have eq : zrtx X S = zrdz X S.2.2.2.1.2 S.2.2.2.1.1 120 1 (ztk S.2.2.2.1.2 S.2.2.2.1.1 0) S.1 := rfl
  rw [← eq] at b1 b2 b3
  unfold zr_text
  generalize zrtx X S = r at *
  have f2 : ∀ a, (a < 56 ∨ 83 ≤ a) → a ≠ 123 → zwI I2 123 1 0 a = I a := fun a h1 h2 => by
    rw [zwI_row h2, b4 a h1 h2]; exact a3 a (by omega)
  by_cases c : r.1 < 0
  · rw [if_pos c]
    refine ⟨zwI I2 123 1 0, ?_, zRX_tx ho hr (zTC_row h14 (fun a h1 h2 => f2 a (by omega) (by omega)) hr.1) zwI_eq (fun a _ h2 h3 => f2 a h2 h3), fun a ha => f2 a (by omega) (by omega)⟩
    refine ((zcal_go zp_X_text rfl).trans zb_X_text_0).trans ?_
    simp only [if_true, if_false, Option.bind_some, Option.bind, Option.toList, List.cons_append, List.nil_append, zite0, zite1, zite01, znn, ite_not, true_or, or_true, true_and, and_true, zn10, zn00, zk_1 hL, zr_1_0 hL, zk_2 hL, zr_1_2 hL, zr_1_8 hL, zk_56 hL, zk_123 hL, a1, zb_X_text_11, b1, zb_X_text_22, eq_true c, zw_I, zb_X_text_46]
  · rw [if_neg c]
    obtain ⟨I3, d1, d2, d3⟩ := zq_become_t (X := X) (d := d + 4) (I := zwI I2 123 1 0) (ztabL hL (t := 2) (by omega)) (ztabL hL (t := 56) (by omega)) (by omega) (zTC_row b3.2.2.2.2.1 (fun a h1 h2 => zwI_row (by omega)) b2) b3.2.2.2.2.1
    have f3 : ∀ a, (a < 2 ∨ 29 ≤ a) → (a < 56 ∨ 83 ≤ a) → a ≠ 123 → I3 a = I a := fun a h1 h2 h3 => (d3 a (by omega)).trans (f2 a h2 h3)
    refine ⟨I3, ?_, zRX_tx ho hr d2 (by rw [d3 123 (by omega)]; exact zwI_eq) f3, fun a ha => f3 a (by omega) (by omega) (by omega)⟩
    refine ((zcal_go zp_X_text rfl).trans zb_X_text_0).trans ?_
    simp only [if_true, if_false, Option.bind_some, Option.bind, Option.toList, List.cons_append, List.nil_append, zite0, zite1, zite01, znn, ite_not, true_or, or_true, true_and, and_true, zn10, zn00, zk_1 hL, zr_1_0 hL, zk_2 hL, zr_1_2 hL, zr_1_8 hL, zk_56 hL, zk_123 hL, a1, zb_X_text_11, b1, zb_X_text_22, eq_false c, zw_I, d1, zb_X_text_46]
theorem zRM_tx {S : zSt} {T : zTb} {I I' : Nat → Nat → Int} (h : zRM I S) (hT : zTM I' 136 T) (h0 : I' 135 6 = 0) (h3' : I' 135 3 = I 135 3) (hf : ∀ a, 138 ≤ a → I' a = I a) : zRM I' (T, (S.2.1, (S.2.2.1, ((0, S.2.2.2.1.2), S.2.2.2.2)))) := by
  obtain ⟨h1, h2, h3, h4, h5, h6, h7⟩ := h
  refine ⟨hT, h3'.trans h2, fun e => zTM_row (hf 138 (by omega)) (h3 e), h0, fun j hj => absurd hj (by show ¬ j < 0; omega), ?_, fun k hk => by rw [hf 139 (by omega)]; exact h7 k hk⟩
  rw [hf 147 (by omega), hf 148 (by omega), hf 149 (by omega)]
  exact h6
theorem zm_text (hL : zLay L) (hC : zXC X) (ho : zSOK n S) : zHM X L (d + 7) 228 [] S (zr_text X S) := by
  intro I hr
  have h14 := ho.1.2.2.2.2.1
  have hB := zBy_S ho
  obtain ⟨I1, a1, a2, a3⟩ := zq_M_copies (X := X) (d := d + 5) (I := I) (zk_136 hL) (zk_137 hL) (by decide)
  obtain ⟨I2, a, b1, b2, b3⟩ := zq_M_items (X := X) (d := d) (I := I1) hL hC hB (by rw [a2 140 (by omega)]; exact hr.2.2.2.2.1) (by rw [a2 135 (by omega)]; exact hr.2.2.2.1) ho.1 (zTM_row (a2 136 (by omega)) hr.1)
  have eq : zrtx X S = zrdz X S.2.2.2.1.2 S.2.2.2.1.1 120 1 (ztk S.2.2.2.1.2 S.2.2.2.1.1 0) S.1 := rfl
  rw [← eq] at b2
  unfold zr_text
  generalize zrtx X S = r at *
  have g3 : I2 135 3 = I 135 3 := (b3.2 3 (by omega)).trans (by rw [a2 135 (by omega)])
  have gf : ∀ c, c ≠ 135 → c ≠ 136 → c ≠ 137 → I2 c = I c := fun c h1 h2 h3 => (b3.1 c h1 h2).trans (a2 c h3)
  have e26 : zwI I2 135 6 0 135 26 = I2 135 26 := zwI_nej (by omega)
  rcases b2 with ⟨k1, k2, k3, k4⟩ | ⟨s, k1, k2, k3⟩
  · rw [if_neg (show ¬ r.1 < 0 by omega), ← k2]
    have hm1 : ((-1 : Int) < 0) = True := eq_true (by decide)
    refine ⟨zwI I2 135 6 0, ?_, zRM_tx hr (zTM_row (zwI_row (by omega)) k4) zwI_eq ((zwI_nej (by omega)).trans g3) (fun c hc => (zwI_row (by omega)).trans (gf c (by omega) (by omega) (by omega))), fun c hc => (zwI_row (by omega)).trans (gf c (by omega) (by omega) (by omega))⟩
    refine ((zcal_go zp_M_text rfl).trans zb_M_text_0).trans ?_
    simp only [if_true, if_false, Option.bind_some, Option.bind, Option.toList, List.cons_append, List.nil_append, zite0, zite1, zite01, znn, ite_not, true_or, or_true, true_and, and_true, zn10, zn00, zk_135 hL, zr_135_0 hL, z6_0 hL, z6_1 hL, z6_2 hL, z6_3 hL, z6_4 hL, zr_135_1 hL, a1, zb_M_text_11, b1, zb_M_text_15, zw_I, e26, k3, hm1]
  · rw [if_pos (show r.1 < 0 by omega)]
    have hns : ((s : Int) < 0) = False := eq_false (by omega)
    obtain ⟨I3, d1, d2, d3⟩ := zq_M_copies (X := X) (d := d + 5) (I := zwI I2 135 6 0) (zk_137 hL) (zk_136 hL) (by decide)
    have h137 : zTM (zwI I2 135 6 0) 137 S.1 := zTM_row ((zwI_row (by omega)).trans (b3.1 137 (by omega) (by omega))) (zTM_cp h14 a3 hr.1)
    have f26 : I3 135 26 = (s : Int) := by rw [d2 135 (by omega), e26]; exact k3
    have ew : w32 (-1 - (s : Int)) = r.1 := (zw32 (by omega) (by omega)).trans k2.symm
    refine ⟨I3, ?_, zRM_tx hr (zTM_cp h14 d3 h137) (by rw [d2 135 (by omega)]; exact zwI_eq) (by rw [d2 135 (by omega)]; exact (zwI_nej (by omega)).trans g3) (fun c hc => (d2 c (by omega)).trans ((zwI_row (by omega)).trans (gf c (by omega) (by omega) (by omega)))), fun c hc => (d2 c (by omega)).trans ((zwI_row (by omega)).trans (gf c (by omega) (by omega) (by omega)))⟩
    refine ((zcal_go zp_M_text rfl).trans zb_M_text_0).trans ?_
    simp only [if_true, if_false, Option.bind_some, Option.bind, Option.toList, List.cons_append, List.nil_append, zite0, zite1, zite01, znn, ite_not, true_or, or_true, true_and, and_true, zn10, zn00, zk_135 hL, zr_135_0 hL, z6_0 hL, z6_1 hL, z6_2 hL, z6_3 hL, z6_4 hL, zr_135_1 hL, a1, zb_M_text_11, b1, zb_M_text_15, zw_I, e26, k3, hns, d1, zb_M_text_39, f26, ew]
theorem zrdz_ok {B : Nat → Int} {m0 : Nat} : ∀ (m i : Nat) (t : zTo) (T : zTb), zTOK nn T → zTOK nn (zrdz X B m0 m i t T).2 := by
  intro m
  induction m with
  | zero => intro i t T ho; exact ho
  | succ m ih =>
    intro i t T ho
    have ok1 := zrdi_ok (X := X) (B := B) (n := m0) (t := t) ho
    unfold zrdz
    split
    · exact ok1
    · split
      · exact ok1
      · split
        · exact ih _ _ _ ok1
        · exact ok1
theorem zo_text (ho : zSOK n S) (hn : n < 100000) : zSOK (n + 1) (zr_text X S).2 := by
  obtain ⟨h1, h2, h3, h4, h5, h6⟩ := zSOK_up ho hn
  refine ⟨?_, h2, h3, by show 0 ≤ 120; omega, h5, h6⟩
  show zTOK (n + 1) (if (zrtx X S).1 < 0 then S.1 else (zrtx X S).2)
  split
  · exact h1
  · exact zrdz_ok _ _ _ _ h1
theorem zA37 {N : Nat} {xs : Nat → Int32} (hL : zLay L) : zA_37 (zXs N xs) L := fun n S ho hn => zCI (zr_text (zXs N xs) S) ⟨_, rfl⟩ (zx_text (d := 33) hL zwx_ok zx23_ok ho) (zm_text (d := 33) hL zxc_ok ho) (zo_text ho hn)
end
