/-! CONTRACTS OF CALLS: shuffle, feed. -/
def zdz (z : Int) : Int := w32 (w32 (z * 1103515245) + 12345)
def zdv (z : Int) : Int := zushr z 8
theorem zdv_ok {z : Int} : 0 ≤ zdv z ∧ zdv z < 16777216 := by
  unfold zdv zushr
  have e : (8 % 32 : Int).toNat = 8 := rfl
  rw [e]
  have h : (2 : Int) ^ 8 = 256 := rfl
  rw [h]
  unfold w32
  omega
theorem zrest {v m : Int} (hv : 0 ≤ v) (hm : 0 < m) : 0 ≤ Int.tmod v m ∧ Int.tmod v m < m := by
  rw [Int.tmod_eq_emod_of_nonneg hv]
  exact ⟨Int.emod_nonneg v (by omega), Int.emod_lt_of_pos v hm⟩
/-- a draw -/
def zTz (T : zTb) : zTb := zTset T 3 (zdz (T.1 3))
def zshk (T : zTb) : Int := Int.tmod (zdv ((zTz T).1 3)) 7
def zsha (T : zTb) : Int := Int.tmod (zdv ((zTz (zTz T)).1 3)) (T.1 0)
def zshs (T : zTb) : Int := Int.tmod (zdv ((zTz (zTz (zTz T))).1 3)) (T.1 0 - 1)
def zshb (T : zTb) : Int := if zsha T + (zshs T + 1) < T.1 0 then zsha T + (zshs T + 1) else zsha T + (zshs T + 1) - T.1 0
def zshf (T : zTb) : zTb := zTadd (zTz (zTz (zTz T))) (zshk T) (zsha T) (zshb T)
def zshN : Nat → zTb → zTb
  | 0, T => T
  | m + 1, T => zshN m (zshf T)
theorem zTOK_z {n : Nat} {T : zTb} (ho : zTOK n T) : zTOK n (zTz T) := by
  refine zTOK_setj (Or.inr (Or.inl rfl)) (by omega) (fun _ => ?_) (by omega) ho
  unfold zdz
  exact zw32_int
theorem zsh_ok {n : Nat} {T : zTb} (ho : zTOK n T) : (0 ≤ zshk T ∧ zshk T ≤ 6) ∧ (0 ≤ zsha T ∧ zsha T ≤ T.1 0 - 1) ∧ (0 ≤ zshs T ∧ zshs T ≤ T.1 0 - 2) ∧ (0 ≤ zshb T ∧ zshb T ≤ T.1 0 - 1) ∧ zsha T ≠ zshb T := by
  have h0 := ho.1
  have a1 := zrest (v := zdv ((zTz T).1 3)) (m := 7) zdv_ok.1 (by omega)
  have a2 := zrest (v := zdv ((zTz (zTz T)).1 3)) (m := T.1 0) zdv_ok.1 (by omega)
  have a3 := zrest (v := zdv ((zTz (zTz (zTz T))).1 3)) (m := T.1 0 - 1) zdv_ok.1 (by omega)
  have b1 : 0 ≤ zshk T ∧ zshk T < 7 := a1
  have b2 : 0 ≤ zsha T ∧ zsha T < T.1 0 := a2
  have b3 : 0 ≤ zshs T ∧ zshs T < T.1 0 - 1 := a3
  refine ⟨by omega, by omega, by omega, ?_, ?_⟩
  · unfold zshb
    split <;> omega
  · unfold zshb
    split <;> omega
theorem zTOK_shf {n : Nat} {T : zTb} (h14 : T.2.1 < 14) (ho : zTOK n T) : zTOK n (zshf T) := by
  obtain ⟨h1, h2, h3, h4, h5⟩ := zsh_ok ho
  exact zTOK_add h14 h1 h2 h4 h5 (zTOK_z (zTOK_z (zTOK_z ho)))
theorem zTOK_shN {n : Nat} : ∀ (m : Nat) (T : zTb), T.2.1 + m ≤ 14 → zTOK n T → zTOK n (zshN m T) := by
  intro m
  induction m with
  | zero => intro T _ h; exact h
  | succ m ih => intro T h14 h; exact ih (zshf T) (by show T.2.1 + 1 + m ≤ 14; omega) (zTOK_shf (by omega) h)
section
variable {X : zX} {C : zC} {d n : Nat} {L : zLt} {S : zSt} {I : Nat → Nat → Int} {T : zTb}
theorem zq_Table_draw (hL : zLay L) (hT : zTC I 2 T) {b : Int} (hb : 0 < b) : zcal X zP (d + 1) 50 [.inr (.inr (.inl 2)), .inl b] (I, L) = some (some (.inl (Int.tmod (zdv ((zTz T).1 3)) b)), (zwI I 2 4 (zdz (T.1 3)), L)) := by
  have e : I 2 4 = T.1 3 := hT.2.2.2.2.1
  have e1 : zwI I 2 4 (zdz (T.1 3)) 2 4 = zdz (T.1 3) := zwI_eq
  have e2 : w32 (w32 (T.1 3 * 1103515245) + 12345) = zdz (T.1 3) := rfl
  refine ((zcal_go zp_Table_draw rfl).trans zb_Table_draw_0).trans ?_
  simp only [if_true, if_false, Option.bind_some, Option.bind, Option.toList, List.cons_append, List.nil_append, zite0, zite1, zite01, znn, ite_not, true_or, or_true, true_and, and_true, zn10, zn00, zk_2 hL, zw_I, e, e2, e1, eq_true hb, eq_false (show ¬ b = 0 by omega)]
  try rfl
theorem zTC_z (hT : zTC I 2 T) : zTC (zwI I 2 4 (zdz (T.1 3))) 2 (zTz T) := zTC_set (by omega) hT
theorem zx_shuffle_l (hL : zLay L) {m0 : Nat} (hm0 : m0 ≤ 12) : ∀ (m i : Nat) (I : Nat → Nat → Int) (T : zTb) (o3 o4 o5 o6 : Option zV), i + m = m0 → T.2.1 + m ≤ 14 → zTC I 2 T → zTOK n T → ∃ I', zgo X (zcal X zP (d + 5)) zc_X_shuffle 40 [some (.inr (.inr (.inl 1))), some (.inl (m0 : Int)), some (.inl (i : Int)), o3, o4, o5, o6] [] (I, L) = some (some (.inl (zpeaAt (zshN m T) (zshN m T).2.1)), (I', L)) ∧ zTC I' 2 (zshN m T) ∧ zkeepX I I' ∧ ∀ a, 135 ≤ a → I' a = I a := by
  intro m
  induction m with
  | zero =>
    intro i I T o3 o4 o5 o6 hi h14 hT ho
    have hq := zq_Table_peaBehind (X := X) (d := d) (ztabL hL (Or.inl rfl)) hT ho (k := T.2.1) (by omega)
    have e : I 2 2 = (T.2.1 : Int) := hT.2.2.1
    refine ⟨I, ?_, hT, ⟨rfl, fun _ _ _ => rfl, rfl, rfl, rfl, fun _ _ _ => rfl⟩, fun a ha => rfl⟩
    rw [zb_X_shuffle_40, if_neg (by omega)]
    simp only [if_true, if_false, Option.bind_some, Option.bind, Option.toList, List.cons_append, List.nil_append, zite0, zite1, zite01, znn, ite_not, true_or, or_true, true_and, and_true, zn10, zn00, zk_1 hL, zr_1_0 hL, zk_2 hL, e, hq, zb_X_shuffle_161]
    try rfl
  | succ m ih =>
    intro i I T o3 o4 o5 o6 hi h14 hT ho
    have h0 := ho.1
    obtain ⟨c1, c2, c3, c4, c5⟩ := zsh_ok ho
    have hT1 := zTC_z hT
    have hT2 := zTC_z hT1
    have hT3 := zTC_z hT2
    have d1 := zq_Table_draw (X := X) (d := d + 4) hL hT (b := 7) (by omega)
    have d2 := zq_Table_draw (X := X) (d := d + 4) hL hT1 (b := T.1 0) (by omega)
    have d3 := zq_Table_draw (X := X) (d := d + 4) hL hT2 (b := T.1 0 - 1) (by omega)
    have hk : Int.tmod (zdv ((zTz T).1 3)) 7 = zshk T := rfl
    have ha : Int.tmod (zdv ((zTz (zTz T)).1 3)) (T.1 0) = zsha T := rfl
    have hs : Int.tmod (zdv ((zTz (zTz (zTz T))).1 3)) (T.1 0 - 1) = zshs T := rfl
    rw [hk] at d1
    rw [ha] at d2
    rw [hs] at d3
    have g1 : zwI I 2 4 (zdz (T.1 3)) 2 0 = T.1 0 := hT1.1
    have g2 : w32 (zwI (zwI I 2 4 (zdz (T.1 3))) 2 4 (zdz ((zTz T).1 3)) 2 0 - 1) = T.1 0 - 1 := by
      have e : zwI (zwI I 2 4 (zdz (T.1 3))) 2 4 (zdz ((zTz T).1 3)) 2 0 = T.1 0 := hT2.1
      rw [e]
      exact zw32 (by omega) (by omega)
    have g3 : zwI (zwI (zwI I 2 4 (zdz (T.1 3))) 2 4 (zdz ((zTz T).1 3))) 2 4 (zdz ((zTz (zTz T)).1 3)) 2 0 = T.1 0 := hT3.1
    have g4 : w32 (zshs T + 1) = zshs T + 1 := zw32 (by omega) (by omega)
    have g5 : w32 (zsha T + (zshs T + 1)) = zsha T + (zshs T + 1) := zw32 (by omega) (by omega)
    have g6 : w32 (zsha T + (zshs T + 1) - T.1 0) = zsha T + (zshs T + 1) - T.1 0 := zw32 (by omega) (by omega)
    have hadd := zq_Table_add (X := X) (d := d + 3) (k := zshk T) (a := zsha T) (b := zshb T) (ztabL hL (Or.inl rfl)) hT3 (show (zTz (zTz (zTz T))).2.1 < 14 by show T.2.1 < 14; omega)
    have hT4 := zTC_add (t := 2) (k := zshk T) (a := zsha T) (b := zshb T) (show (zTz (zTz (zTz T))).2.1 < 14 by show T.2.1 < 14; omega) hT3
    have ho4 := zTOK_shf (show T.2.1 < 14 by omega) ho
    obtain ⟨I', q1, q2, q3, q4⟩ := ih (i + 1) _ (zshf T) (some (.inl (zshk T))) (some (.inl (zsha T))) (some (.inl (zshs T + 1))) (some (.inl (zshb T))) (by omega) (by show T.2.1 + 1 + m ≤ 14; omega) hT4 ho4
    refine ⟨I', ?_, q2, ?_, fun a ha => (q4 a ha).trans ?_⟩
    · rw [zb_X_shuffle_40, if_pos (by omega)]
      by_cases c : zsha T + (zshs T + 1) < T.1 0
      · have eb : zshb T = zsha T + (zshs T + 1) := if_pos c
        rw [eb] at hadd q1
        simp only [if_true, if_false, Option.bind_some, Option.bind, Option.toList, List.cons_append, List.nil_append, zite0, zite1, zite01, znn, ite_not, true_or, or_true, true_and, and_true, zn10, zn00, zk_1 hL, zr_1_0 hL, zk_2 hL, d1, zb_X_shuffle_54, g1, d2, zb_X_shuffle_69, g2, d3, zb_X_shuffle_87, g3, g4, g5, eq_true c, hadd, zb_X_shuffle_141]
        rw [zw32n (by omega)]
        exact q1
      · have eb : zshb T = zsha T + (zshs T + 1) - T.1 0 := if_neg c
        rw [eb] at hadd q1
        simp only [if_true, if_false, Option.bind_some, Option.bind, Option.toList, List.cons_append, List.nil_append, zite0, zite1, zite01, znn, ite_not, true_or, or_true, true_and, and_true, zn10, zn00, zk_1 hL, zr_1_0 hL, zk_2 hL, d1, zb_X_shuffle_54, g1, d2, zb_X_shuffle_69, g2, d3, zb_X_shuffle_87, g3, g4, g5, eq_false c, g6, hadd, zb_X_shuffle_141]
        rw [zw32n (by omega)]
        exact q1
    · refine zkeepX_tr (zkeepX_tr (zkeepX_tr (zkeepX_tr (zkeepX_tr (zkeepX_tr (zkeepX_2 (by omega)) (zkeepX_2 (by omega))) (zkeepX_2 (by omega))) (zkeepX_2 ?_)) (zkeepX_2 ?_)) (zkeepX_tr (zkeepX_2 ?_) (zkeepX_2 (by omega)))) q3
      all_goals (show 2 ≤ 2 + 5 + T.2.1 ∧ 2 + 5 + T.2.1 < 29; omega)
    · rw [zIadd_row (by omega) (by show a ≠ 2 + 5 + T.2.1; omega), zwI_row (by omega), zwI_row (by omega), zwI_row (by omega)]
def zr_shuffle (S : zSt) (m : Int) : zV × zSt := if 1 ≤ m ∧ m ≤ 12 then (if 14 < (S.1.2.1 : Int) + m then (.inl (-1000002), zSf S 1) else (.inl (zpeaAt (zshN m.toNat S.1) (zshN m.toNat S.1).2.1), zS1 S (zshN m.toNat S.1))) else (.inl (-1000001), zSf S 0)
theorem zx_shuffle (hL : zLay L) (ho : zSOK n S) {m : Int} : zHX X L (d + 6) 103 [.inl m] S (zr_shuffle S m) := by
  intro I hr
  have h14 := ho.1.2.2.2.2.1
  have hb := zq_X_within (X := X) (d := d + 4) (σ := (I, L)) (v := m) (a := 1) (b := 12)
  unfold zr_shuffle
  by_cases hm : 1 ≤ m ∧ m ≤ 12
  · rw [if_pos hm] at hb ⊢
    have e2 : w32 (I 2 2 + m) = (S.1.2.1 : Int) + m := by rw [hr.1.2.2.1]; exact zw32 (by omega) (by omega)
    by_cases hf : 14 < (S.1.2.1 : Int) + m
    · rw [if_pos hf]
      obtain ⟨I', h1, h2, h3⟩ := zX_tellc (X := X) (d := d + 4) (k := 1) (c := -1000002) hL ho (by omega) (by omega) hr
      refine ⟨I', ?_, h2, h3⟩
      refine ((zcal_go zp_X_shuffle rfl).trans zb_X_shuffle_0).trans ?_
      simp only [if_true, if_false, Option.bind_some, Option.bind, Option.toList, List.cons_append, List.nil_append, zite0, zite1, zite01, znn, ite_not, true_or, or_true, true_and, and_true, zn10, zn00, zk_1 hL, zr_1_0 hL, zk_2 hL, hb, zb_X_shuffle_7, e2, eq_true hf, h1, zb_X_shuffle_37]
    · rw [if_neg hf]
      obtain ⟨k, rfl⟩ := Int.eq_ofNat_of_zero_le (show 0 ≤ m by omega)
      rw [Int.toNat_natCast]
      obtain ⟨I', q1, q2, q3, q4⟩ := zx_shuffle_l (X := X) (d := d) (n := n) hL (m0 := k) (by omega) k 0 I S.1 none none none none (by omega) (by omega) hr.1 ho.1
      refine ⟨I', ?_, zRX_T ho q3 q2 hr, q4⟩
      refine ((zcal_go zp_X_shuffle rfl).trans zb_X_shuffle_0).trans ?_
      simp only [if_true, if_false, Option.bind_some, Option.bind, Option.toList, List.cons_append, List.nil_append, zite0, zite1, zite01, znn, ite_not, true_or, or_true, true_and, and_true, zn10, zn00, zk_1 hL, zr_1_0 hL, zk_2 hL, hb, zb_X_shuffle_7, e2, eq_false hf]
      exact q1
  · rw [if_neg hm] at hb ⊢
    obtain ⟨I', h1, h2, h3⟩ := zX_tellc (X := X) (d := d + 4) (k := 0) (c := -1000001) hL ho (by omega) (by omega) hr
    refine ⟨I', ?_, h2, h3⟩
    refine ((zcal_go zp_X_shuffle rfl).trans zb_X_shuffle_0).trans ?_
    simp only [if_true, if_false, Option.bind_some, Option.bind, Option.toList, List.cons_append, List.nil_append, zite0, zite1, zite01, znn, ite_not, true_or, or_true, true_and, and_true, zn10, zn00, zk_1 hL, zr_1_0 hL, zk_2 hL, hb, zb_X_shuffle_7, h1, zb_X_shuffle_16]
theorem zq_M_drawn (hL : zLay L) (hT : zTM I 136 T) : zcal X zP (d + 1) 209 [.inr (.inr (.inl 135))] (I, L) = some (some (.inl (zdv ((zTz T).1 3))), (zwI I 136 3 (zdz (T.1 3)), L)) := by
  have e : I 136 3 = T.1 3 := hT.1 3 (by omega)
  have e1 : zwI I 136 3 (zdz (T.1 3)) 136 3 = zdz (T.1 3) := zwI_eq
  have e2 : w32 (w32 (T.1 3 * 1103515245) + 12345) = zdz (T.1 3) := rfl
  refine ((zcal_go zp_M_drawn rfl).trans zb_M_drawn_0).trans ?_
  simp only [if_true, if_false, Option.bind_some, Option.bind, Option.toList, List.cons_append, List.nil_append, zite0, zite1, zite01, znn, ite_not, true_or, or_true, true_and, and_true, zn10, zn00, zk_135 hL, zr_135_0 hL, z6_0 hL, z6_1 hL, z6_2 hL, z6_3 hL, z6_4 hL, zw_I, e, e2, e1]
  try rfl
theorem zTM_z (h14 : T.2.1 ≤ 14) (hT : zTM I 136 T) : zTM (zwI I 136 3 (zdz (T.1 3))) 136 (zTz T) := zTM_set (by omega) h14 hT
theorem zm_shuffle_l (hL : zLay L) {m0 : Nat} (hm0 : m0 ≤ 12) : ∀ (m i : Nat) (I : Nat → Nat → Int) (T : zTb) (o3 o4 o5 o6 : Option zV), i + m = m0 → T.2.1 + m ≤ 14 → zTM I 136 T → zTOK n T → ∃ I', zgo X (zcal X zP (d + 4)) zc_M_shuffle 39 [some (.inr (.inr (.inl 135))), some (.inl (m0 : Int)), some (.inl (i : Int)), o3, o4, o5, o6] [] (I, L) = some (some (.inl (zpeaAt (zshN m T) (zshN m T).2.1)), (I', L)) ∧ zTM I' 136 (zshN m T) ∧ ∀ a, a ≠ 136 → I' a = I a := by
  intro m
  induction m with
  | zero =>
    intro i I T o3 o4 o5 o6 hi h14 hT ho
    have hq := zq_M_peaBehind (X := X) (d := d) hL hT ho (k := T.2.1) (by omega)
    have e : I 136 1 = (T.2.1 : Int) := hT.2.1
    refine ⟨I, ?_, hT, fun a ha => rfl⟩
    rw [zb_M_shuffle_39, if_neg (by omega)]
    simp only [if_true, if_false, Option.bind_some, Option.bind, Option.toList, List.cons_append, List.nil_append, zite0, zite1, zite01, znn, ite_not, true_or, or_true, true_and, and_true, zn10, zn00, zk_135 hL, zr_135_0 hL, z6_0 hL, z6_1 hL, z6_2 hL, z6_3 hL, z6_4 hL, e, hq, zb_M_shuffle_119]
    try rfl
  | succ m ih =>
    intro i I T o3 o4 o5 o6 hi h14 hT ho
    have h0 := ho.1
    obtain ⟨c1, c2, c3, c4, c5⟩ := zsh_ok ho
    have hT1 := zTM_z (by omega) hT
    have hT2 := zTM_z (by show T.2.1 ≤ 14; omega) hT1
    have hT3 := zTM_z (by show T.2.1 ≤ 14; omega) hT2
    have d1 := zq_M_drawn (X := X) (d := d + 3) hL hT
    have d2 := zq_M_drawn (X := X) (d := d + 3) hL hT1
    have d3 := zq_M_drawn (X := X) (d := d + 3) hL hT2
    have hk : Int.tmod (zdv ((zTz T).1 3)) 7 = zshk T := rfl
    have ha : Int.tmod (zdv ((zTz (zTz T)).1 3)) (T.1 0) = zsha T := rfl
    have hs : Int.tmod (zdv ((zTz (zTz (zTz T))).1 3)) (T.1 0 - 1) = zshs T := rfl
    have g2 : zwI (zwI I 136 3 (zdz (T.1 3))) 136 3 (zdz ((zTz T).1 3)) 136 0 = T.1 0 := hT2.1 0 (by omega)
    have g3 : zwI (zwI (zwI I 136 3 (zdz (T.1 3))) 136 3 (zdz ((zTz T).1 3))) 136 3 (zdz ((zTz (zTz T)).1 3)) 136 0 = T.1 0 := hT3.1 0 (by omega)
    have g1 : w32 (T.1 0 - 1) = T.1 0 - 1 := zw32 (by omega) (by omega)
    have g4 : w32 (zsha T + 1) = zsha T + 1 := zw32 (by omega) (by omega)
    have g5 : Int.tmod (w32 (zsha T + 1 + zshs T)) (T.1 0) = zshb T := by
      rw [zw32 (by omega) (by omega), Int.tmod_eq_emod_of_nonneg (by omega)]
      unfold zshb
      by_cases c : zsha T + (zshs T + 1) < T.1 0
      · rw [if_pos c, Int.emod_eq_of_lt (by omega) (by omega)]
        omega
      · rw [if_neg c, show zsha T + 1 + zshs T = (zsha T + (zshs T + 1) - T.1 0) + T.1 0 by omega, Int.add_emod_right, Int.emod_eq_of_lt (by omega) (by omega)]
    have hadd := zq_M_comes (X := X) (d := d + 3) (k := zshk T) (a := zsha T) (b := zshb T) hL hT3 (show (zTz (zTz (zTz T))).2.1 < 14 by show T.2.1 < 14; omega)
    have hT4 := zTM_add (k := zshk T) (a := zsha T) (b := zshb T) (show (zTz (zTz (zTz T))).2.1 < 14 by show T.2.1 < 14; omega) hT3
    have ho4 := zTOK_shf (show T.2.1 < 14 by omega) ho
    obtain ⟨I', q1, q2, q3⟩ := ih (i + 1) _ (zshf T) (some (.inl (zshk T))) (some (.inl (zsha T))) (some (.inl (zshb T))) (some (.inl ((zTz (zTz (zTz T))).2.1 : Int))) (by omega) (by show T.2.1 + 1 + m ≤ 14; omega) hT4 ho4
    refine ⟨I', ?_, q2, fun a ha => (q3 a ha).trans ?_⟩
    · rw [zb_M_shuffle_39, if_pos (by omega)]
      simp only [if_true, if_false, Option.bind_some, Option.bind, Option.toList, List.cons_append, List.nil_append, zite0, zite1, zite01, znn, ite_not, true_or, or_true, true_and, and_true, zn10, zn00, zk_135 hL, zr_135_0 hL, z6_0 hL, z6_1 hL, z6_2 hL, z6_3 hL, z6_4 hL, d1, zb_M_shuffle_48, d2, zb_M_shuffle_56, g2, hk, ha, eq_false (show ¬ T.1 0 = 0 by omega), d3, zb_M_shuffle_73, g3, g1, eq_false (show ¬ T.1 0 - 1 = 0 by omega), hs, g4, g5, hadd, zb_M_shuffle_101]
      rw [zw32n (by omega)]
      exact q1
    · unfold zJadd
      rw [zwI_row ha, zwI_row ha, zwI_row ha, zwI_row ha, zwI_row ha, zwI_row ha, zwI_row ha]
theorem zm_shuffle (hL : zLay L) (ho : zSOK n S) {m : Int} : zHM X L (d + 5) 210 [.inl m] S (zr_shuffle S m) := by
  intro I hr
  have h14 := ho.1.2.2.2.2.1
  have hb := zq_M_in (X := X) (d := d + 3) (σ := (I, L)) (v := m) (a := 1) (b := 12)
  unfold zr_shuffle
  by_cases hm : 1 ≤ m ∧ m ≤ 12
  · rw [if_pos hm] at hb ⊢
    have e2 : w32 (I 136 1 + m) = (S.1.2.1 : Int) + m := by rw [hr.1.2.1]; exact zw32 (by omega) (by omega)
    by_cases hf : 14 < (S.1.2.1 : Int) + m
    · rw [if_pos hf]
      obtain ⟨I', h1, h2, h3⟩ := zM_findsc (X := X) (d := d + 3) (k := 1) (c := -1000002) (k' := 1) hL ho (by omega) (by omega) (by omega) hr
      refine ⟨I', ?_, h2, h3⟩
      refine ((zcal_go zp_M_shuffle rfl).trans zb_M_shuffle_0).trans ?_
      simp only [if_true, if_false, Option.bind_some, Option.bind, Option.toList, List.cons_append, List.nil_append, zite0, zite1, zite01, znn, ite_not, true_or, or_true, true_and, and_true, zn10, zn00, zk_135 hL, zr_135_0 hL, z6_0 hL, z6_1 hL, z6_2 hL, z6_3 hL, z6_4 hL, hb, zb_M_shuffle_9, e2, eq_true hf, h1, zb_M_shuffle_36]
    · rw [if_neg hf]
      obtain ⟨k, rfl⟩ := Int.eq_ofNat_of_zero_le (show 0 ≤ m by omega)
      rw [Int.toNat_natCast]
      obtain ⟨I', q1, q2, q3⟩ := zm_shuffle_l (X := X) (d := d) (n := n) hL (m0 := k) (by omega) k 0 I S.1 none none none none (by omega) (by omega) hr.1 ho.1
      refine ⟨I', ?_, zRM_T ⟨by rw [q3 _ (by omega)], by rw [q3 _ (by omega)], q3 _ (by omega), q3 _ (by omega), q3 _ (by omega), q3 _ (by omega), q3 _ (by omega), q3 _ (by omega)⟩ q2 hr, fun a ha => q3 a (by omega)⟩
      refine ((zcal_go zp_M_shuffle rfl).trans zb_M_shuffle_0).trans ?_
      simp only [if_true, if_false, Option.bind_some, Option.bind, Option.toList, List.cons_append, List.nil_append, zite0, zite1, zite01, znn, ite_not, true_or, or_true, true_and, and_true, zn10, zn00, zk_135 hL, zr_135_0 hL, z6_0 hL, z6_1 hL, z6_2 hL, z6_3 hL, z6_4 hL, hb, zb_M_shuffle_9, e2, eq_false hf]
      exact q1
  · rw [if_neg hm] at hb ⊢
    obtain ⟨I', h1, h2, h3⟩ := zM_findsc (X := X) (d := d + 3) (k := 0) (c := -1000001) (k' := 0) hL ho (by omega) (by omega) (by omega) hr
    refine ⟨I', ?_, h2, h3⟩
    refine ((zcal_go zp_M_shuffle rfl).trans zb_M_shuffle_0).trans ?_
    simp only [if_true, if_false, Option.bind_some, Option.bind, Option.toList, List.cons_append, List.nil_append, zite0, zite1, zite01, znn, ite_not, true_or, or_true, true_and, and_true, zn10, zn00, zk_135 hL, zr_135_0 hL, z6_0 hL, z6_1 hL, z6_2 hL, z6_3 hL, z6_4 hL, hb, zb_M_shuffle_9, h1, zb_M_shuffle_17]
theorem zo_shuffle (ho : zSOK n S) (hn : n < 100000) {m : Int} : zSOK (n + 1) (zr_shuffle S m).2 := by
  unfold zr_shuffle
  split
  · split
    · exact zSOK_f ho (by omega) hn
    · obtain ⟨h1, h2⟩ := zSOK_up ho hn
      exact ⟨zTOK_shN _ _ (by omega) h1, h2⟩
  · exact zSOK_f ho (by omega) hn
theorem zA33 (hL : zLay L) : zA_33 X L := fun n a1 _ S ho hn => zCI (zr_shuffle S a1) (by unfold zr_shuffle; repeat' (first | exact ⟨_, rfl⟩ | refine zif1 ?_ ?_)) (zx_shuffle (d := 34) hL ho) (zm_shuffle (d := 35) hL ho) (zo_shuffle ho hn)
/-- feed -/
abbrev zTp : Type := Nat × (Nat → Int)
def zStp (S : zSt) (tp : zTp) : zSt := (S.1, (S.2.1, (S.2.2.1, (tp, S.2.2.2.2))))
def zapp (tp : zTp) (v : Int) : zTp := (tp.1 + 1, fun j => if j = tp.1 then v else tp.2 j)
def zfd (x : Int) : Nat → zTp → zTp
  | 0, tp => tp
  | m + 1, tp => zfd x m (zapp tp (w8 (w8 (zshr x (8 * (m : Int))))))
theorem zfd_1 {x : Int} : ∀ (m : Nat) (tp : zTp), (zfd x m tp).1 = tp.1 + m := by
  intro m
  induction m with
  | zero => intro tp; rfl
  | succ m ih =>
    intro tp
    refine (ih _).trans ?_
    show tp.1 + 1 + m = tp.1 + (m + 1)
    omega
theorem zfd_ok {x : Int} : ∀ (m : Nat) (tp : zTp), (∀ j, -128 ≤ tp.2 j ∧ tp.2 j ≤ 127) → ∀ j, -128 ≤ (zfd x m tp).2 j ∧ (zfd x m tp).2 j ≤ 127 := by
  intro m
  induction m with
  | zero => intro tp h; exact h
  | succ m ih =>
    intro tp h
    refine ih _ (fun j => ?_)
    show -128 ≤ (if j = tp.1 then _ else tp.2 j) ∧ (if j = tp.1 then _ else tp.2 j) ≤ 127
    split
    · unfold w8; omega
    · exact h j
theorem zi8 {m : Nat} (h : m < 4) : w32 (8 * (m : Int)) = 8 * (m : Int) := by unfold w32; omega
theorem zim1 {m : Nat} (h : m < 4) : w32 ((m : Int) + (-1)) = (m : Int) - 1 := by unfold w32; omega
theorem zbyte {x : Int} {i : Nat} (hi : i < 4) : w8 (zushr x (8 * (i : Int))) = w8 (zshr x (8 * (i : Int))) := by
  unfold zushr zshr
  rcases (show i = 0 ∨ i = 1 ∨ i = 2 ∨ i = 3 by omega) with rfl | rfl | rfl | rfl
  · rw [show (8 * ((0 : Nat) : Int) % 32).toNat = 0 from rfl, show (2 : Int) ^ 0 = 1 from rfl]; unfold w8 w32; omega
  · rw [show (8 * ((1 : Nat) : Int) % 32).toNat = 8 from rfl, show (2 : Int) ^ 8 = 256 from rfl]; unfold w8 w32; omega
  · rw [show (8 * ((2 : Nat) : Int) % 32).toNat = 16 from rfl, show (2 : Int) ^ 16 = 65536 from rfl]; unfold w8 w32; omega
  · rw [show (8 * ((3 : Nat) : Int) % 32).toNat = 24 from rfl, show (2 : Int) ^ 24 = 16777216 from rfl]; unfold w8 w32; omega
theorem zRX_app {tp : zTp} {v : Int} (ho : zSOK n S) (h : zRX I (zStp S tp)) : zRX (zwI (zwI I 124 tp.1 v) 123 1 ((tp.1 + 1 : Nat) : Int)) (zStp S (zapp tp v)) := by
  obtain ⟨h1, h2, h3, h4, h5, h6, h7⟩ := h
  refine ⟨zTC_row ho.1.2.2.2.2.1 (fun a _ ha => (zwI_row (by omega)).trans (zwI_row (by omega))) h1, ?_, fun e => zTC_row (ho.2.2.1 e).2.2.2.2.1 (fun a _ ha => (zwI_row (by omega)).trans (zwI_row (by omega))) (h3 e), zwI_eq, fun j hj => ?_, fun s hs => ?_, fun k hk => ?_⟩
  · rw [zwI_ne (by omega), zwI_ne (by omega)]; exact h2
  · have hj : j < tp.1 + 1 := hj
    rw [zwI_ne (by omega), zwI_if]
    show _ = if j = tp.1 then v else tp.2 j
    by_cases c : j = tp.1
    · rw [if_pos ⟨rfl, c⟩, if_pos c]
    · rw [if_neg (fun e => c e.2), if_neg c]; exact h5 j (by show j < tp.1; omega)
  · rw [zwI_row (by omega), zwI_row (by omega), zwI_row (by omega), zwI_row (by omega)]; exact h6 s hs
  · rw [zwI_ne (by omega), zwI_ne (by omega)]; exact h7 k hk
theorem zRM_app {tp : zTp} {v : Int} (h : zRM I (zStp S tp)) : zRM (zwI (zwI I 140 tp.1 v) 135 6 ((tp.1 + 1 : Nat) : Int)) (zStp S (zapp tp v)) := by
  obtain ⟨h1, h2, h3, h4, h5, h6, h7⟩ := h
  refine ⟨zTM_row ((zwI_row (by omega)).trans (zwI_row (by omega))) h1, ?_, fun e => zTM_row ((zwI_row (by omega)).trans (zwI_row (by omega))) (h3 e), zwI_eq, fun j hj => ?_, fun s hs => ?_, fun k hk => ?_⟩
  · rw [zwI_nej (by omega), zwI_ne (by omega)]; exact h2
  · have hj : j < tp.1 + 1 := hj
    rw [zwI_ne (by omega), zwI_if]
    show _ = if j = tp.1 then v else tp.2 j
    by_cases c : j = tp.1
    · rw [if_pos ⟨rfl, c⟩, if_pos c]
    · rw [if_neg (fun e => c e.2), if_neg c]; exact h5 j (by show j < tp.1; omega)
  · rw [zwI_row (by omega), zwI_row (by omega), zwI_row (by omega), zwI_row (by omega), zwI_row (by omega), zwI_row (by omega)]; exact h6 s hs
  · rw [zwI_ne (by omega), zwI_ne (by omega)]; exact h7 k hk
theorem zc124 (hL : zLay L) {i : Nat} (h : i < 120) : ((L.2.1 124).1 = 4 ∧ 0 ≤ (i : Int) ∧ (i : Int) < ((L.2.1 124).2.1 : Int)) = True := by
  rw [zk_124 hL]
  exact eq_true ⟨rfl, by omega, by show (i : Int) < ((120 : Nat) : Int); omega⟩
theorem zc140 (hL : zLay L) {i : Nat} (h : i < 120) : ((L.2.1 140).1 = 4 ∧ 0 ≤ (i : Int) ∧ (i : Int) < ((L.2.1 140).2.1 : Int)) = True := by
  rw [zk_140 hL]
  exact eq_true ⟨rfl, by omega, by show (i : Int) < ((120 : Nat) : Int); omega⟩
theorem zx_feed_l (hL : zLay L) (ho : zSOK n S) {x y : Int} : ∀ (m : Nat) (I : Nat → Nat → Int) (tp : zTp), m ≤ 4 → tp.1 + m ≤ 120 → zRX I (zStp S tp) → ∃ I', zgo X (zcal X zP (d + 1)) zc_X_feed 41 [some (.inr (.inr (.inl 1))), some (.inl x), some (.inl y), some (.inl ((m : Int) - 1))] [] (I, L) = some (some (.inl ((zfd x m tp).1 : Int)), (I', L)) ∧ zRX I' (zStp S (zfd x m tp)) ∧ ∀ a, 135 ≤ a → I' a = I a := by
  intro m
  induction m with
  | zero =>
    intro I tp hm ht hr
    have e : I 123 1 = (tp.1 : Int) := hr.2.2.2.1
    refine ⟨I, ?_, hr, fun a _ => rfl⟩
    rw [zb_X_feed_41, if_pos (by omega)]
    simp only [if_true, if_false, Option.bind_some, Option.bind, Option.toList, List.cons_append, List.nil_append, zite0, zite1, zite01, znn, ite_not, true_or, or_true, true_and, and_true, zn10, zn00, zk_1 hL, zr_1_0 hL, zk_2 hL, zr_1_8 hL, zk_123 hL, e]
    try rfl
  | succ m ih =>
    intro I tp hm ht hr
    have e : I 123 1 = (tp.1 : Int) := hr.2.2.2.1
    obtain ⟨I', q1, q2, q3⟩ := ih _ _ (by omega) (by show tp.1 + 1 + m ≤ 120; omega) (zRX_app (v := w8 (w8 (zshr x (8 * (m : Int))))) ho hr)
    have em : ((m + 1 : Nat) : Int) - 1 = (m : Int) := by omega
    have hput : zcal X zP (d + 1) 55 [.inr (.inr (.inl 123)), .inl (zushr x (8 * (m : Int)))] (I, L) = some (none, (zwI (zwI I 124 tp.1 (w8 (w8 (zshr x (8 * (m : Int)))))) 123 1 ((tp.1 + 1 : Nat) : Int), L)) := by
      have e2 : ∀ v, zwI I 124 tp.1 v 123 1 = (tp.1 : Int) := fun v => (zwI_ne (by omega)).trans e
      refine ((zcal_go zp_Tape_put rfl).trans zb_Tape_put_0).trans ?_
      simp only [if_true, if_false, Option.bind_some, Option.bind, Option.toList, List.cons_append, List.nil_append, zite0, zite1, zite01, znn, ite_not, true_or, or_true, true_and, and_true, zn10, zn00, zk_123 hL, zr_123_0 hL, e, eq_true (show (tp.1 : Int) < 120 by omega), zc124 hL (show tp.1 < 120 by omega), Int.toNat_natCast, zw_I, e2, zbyte (x := x) (show m < 4 by omega)]
      rw [zw32n (by omega)]
    refine ⟨I', ?_, q2, fun a ha => (q3 a ha).trans ((zwI_row (by omega)).trans (zwI_row (by omega)))⟩
    rw [zb_X_feed_41, em, if_neg (by omega)]
    simp only [if_true, if_false, Option.bind_some, Option.bind, Option.toList, List.cons_append, List.nil_append, zite0, zite1, zite01, znn, ite_not, true_or, or_true, true_and, and_true, zn10, zn00, zk_1 hL, zr_1_0 hL, zk_2 hL, zr_1_8 hL, zk_123 hL, zi8 (show m < 4 by omega), hput, zb_X_feed_58, zim1 (show m < 4 by omega)]
    exact q1
def zr_feed (S : zSt) (x m : Int) : zV × zSt := if 1 ≤ m ∧ m ≤ 4 then (if 120 < (S.2.2.2.1.1 : Int) + m then (.inl (-1000002), zSf S 1) else (.inl ((zfd x m.toNat S.2.2.2.1).1 : Int), zStp S (zfd x m.toNat S.2.2.2.1))) else (.inl (-1000001), zSf S 0)
theorem zx_feed (hL : zLay L) (ho : zSOK n S) {x m : Int} : zHX X L (d + 2) 105 [.inl x, .inl m] S (zr_feed S x m) := by
  intro I hr
  have h120 := ho.2.2.2.1
  have hb := zq_X_within (X := X) (d := d) (σ := (I, L)) (v := m) (a := 1) (b := 4)
  unfold zr_feed
  by_cases hm : 1 ≤ m ∧ m ≤ 4
  · rw [if_pos hm] at hb ⊢
    have e2 : w32 (I 123 1 + m) = (S.2.2.2.1.1 : Int) + m := by rw [hr.2.2.2.1]; exact zw32 (by omega) (by omega)
    by_cases hf : 120 < (S.2.2.2.1.1 : Int) + m
    · rw [if_pos hf]
      obtain ⟨I', h1, h2, h3⟩ := zX_tellc (X := X) (d := d) (k := 1) (c := -1000002) hL ho (by omega) (by omega) hr
      refine ⟨I', ?_, h2, h3⟩
      refine ((zcal_go zp_X_feed rfl).trans zb_X_feed_0).trans ?_
      simp only [if_true, if_false, Option.bind_some, Option.bind, Option.toList, List.cons_append, List.nil_append, zite0, zite1, zite01, znn, ite_not, true_or, or_true, true_and, and_true, zn10, zn00, zk_1 hL, zr_1_0 hL, zk_2 hL, zr_1_8 hL, zk_123 hL, hb, zb_X_feed_6, e2, eq_true hf, h1, zb_X_feed_36]
    · rw [if_neg hf]
      obtain ⟨k, rfl⟩ := Int.eq_ofNat_of_zero_le (show 0 ≤ m by omega)
      rw [Int.toNat_natCast]
      obtain ⟨I', q1, q2, q3⟩ := zx_feed_l (X := X) (d := d) (n := n) hL ho (x := x) (y := (k : Int)) k I S.2.2.2.1 (by omega) (by omega) hr
      have e3 : w32 ((k : Int) - 1) = (k : Int) - 1 := zw32 (by omega) (by omega)
      refine ⟨I', ?_, q2, q3⟩
      refine ((zcal_go zp_X_feed rfl).trans zb_X_feed_0).trans ?_
      simp only [if_true, if_false, Option.bind_some, Option.bind, Option.toList, List.cons_append, List.nil_append, zite0, zite1, zite01, znn, ite_not, true_or, or_true, true_and, and_true, zn10, zn00, zk_1 hL, zr_1_0 hL, zk_2 hL, zr_1_8 hL, zk_123 hL, hb, zb_X_feed_6, e2, eq_false hf, e3]
      exact q1
  · rw [if_neg hm] at hb ⊢
    obtain ⟨I', h1, h2, h3⟩ := zX_tellc (X := X) (d := d) (k := 0) (c := -1000001) hL ho (by omega) (by omega) hr
    refine ⟨I', ?_, h2, h3⟩
    refine ((zcal_go zp_X_feed rfl).trans zb_X_feed_0).trans ?_
    simp only [if_true, if_false, Option.bind_some, Option.bind, Option.toList, List.cons_append, List.nil_append, zite0, zite1, zite01, znn, ite_not, true_or, or_true, true_and, and_true, zn10, zn00, zk_1 hL, zr_1_0 hL, zk_2 hL, hb, zb_X_feed_6, h1, zb_X_feed_15]
theorem zm_feed_l (hL : zLay L) {x y : Int} : ∀ (m : Nat) (I : Nat → Nat → Int) (tp : zTp), m ≤ 4 → tp.1 + m ≤ 120 → zRM I (zStp S tp) → ∃ I', zgo X C zc_M_feed 39 [some (.inr (.inr (.inl 135))), some (.inl x), some (.inl y), some (.inl ((m : Int) - 1))] [] (I, L) = some (some (.inl ((zfd x m tp).1 : Int)), (I', L)) ∧ zRM I' (zStp S (zfd x m tp)) ∧ ∀ a, a < 135 → I' a = I a := by
  intro m
  induction m with
  | zero =>
    intro I tp hm ht hr
    have e : I 135 6 = (tp.1 : Int) := hr.2.2.2.1
    refine ⟨I, ?_, hr, fun a _ => rfl⟩
    rw [zb_M_feed_39, if_pos (by omega)]
    simp only [if_true, if_false, Option.bind_some, Option.bind, Option.toList, List.cons_append, List.nil_append, zite0, zite1, zite01, znn, ite_not, true_or, or_true, true_and, and_true, zn10, zn00, zk_135 hL, zr_135_0 hL, z6_0 hL, z6_1 hL, z6_2 hL, z6_3 hL, z6_4 hL, e]
    try rfl
  | succ m ih =>
    intro I tp hm ht hr
    have e : I 135 6 = (tp.1 : Int) := hr.2.2.2.1
    obtain ⟨I', q1, q2, q3⟩ := ih _ _ (by omega) (by show tp.1 + 1 + m ≤ 120; omega) (zRM_app (v := w8 (w8 (zshr x (8 * (m : Int))))) hr)
    have em : ((m + 1 : Nat) : Int) - 1 = (m : Int) := by omega
    have e2 : ∀ v, zwI I 140 tp.1 v 135 6 = (tp.1 : Int) := fun v => (zwI_ne (by omega)).trans e
    refine ⟨I', ?_, q2, fun a ha => (q3 a ha).trans ((zwI_row (by omega)).trans (zwI_row (by omega)))⟩
    rw [zb_M_feed_39, em, if_neg (by omega)]
    simp only [if_true, if_false, Option.bind_some, Option.bind, Option.toList, List.cons_append, List.nil_append, zite0, zite1, zite01, znn, ite_not, true_or, or_true, true_and, and_true, zn10, zn00, zk_135 hL, zr_135_0 hL, z6_0 hL, z6_1 hL, z6_2 hL, z6_3 hL, z6_4 hL, zr_135_5 hL, e, zc140 hL (show tp.1 < 120 by omega), Int.toNat_natCast, zi8 (show m < 4 by omega), zw_I, e2, zim1 (show m < 4 by omega)]
    rw [zw32n (by omega)]
    exact q1
theorem zm_feed (hL : zLay L) (ho : zSOK n S) {x m : Int} : zHM X L (d + 2) 212 [.inl x, .inl m] S (zr_feed S x m) := by
  intro I hr
  have h120 := ho.2.2.2.1
  have hb := zq_M_in (X := X) (d := d) (σ := (I, L)) (v := m) (a := 1) (b := 4)
  unfold zr_feed
  by_cases hm : 1 ≤ m ∧ m ≤ 4
  · rw [if_pos hm] at hb ⊢
    have e2 : w32 (I 135 6 + m) = (S.2.2.2.1.1 : Int) + m := by rw [hr.2.2.2.1]; exact zw32 (by omega) (by omega)
    by_cases hf : 120 < (S.2.2.2.1.1 : Int) + m
    · rw [if_pos hf]
      obtain ⟨I', h1, h2, h3⟩ := zM_findsc (X := X) (d := d) (k := 1) (c := -1000002) (k' := 1) hL ho (by omega) (by omega) (by omega) hr
      refine ⟨I', ?_, h2, h3⟩
      refine ((zcal_go zp_M_feed rfl).trans zb_M_feed_0).trans ?_
      simp only [if_true, if_false, Option.bind_some, Option.bind, Option.toList, List.cons_append, List.nil_append, zite0, zite1, zite01, znn, ite_not, true_or, or_true, true_and, and_true, zn10, zn00, zk_135 hL, zr_135_0 hL, z6_0 hL, z6_1 hL, z6_2 hL, z6_3 hL, z6_4 hL, hb, zb_M_feed_9, e2, eq_true hf, h1, zb_M_feed_34]
    · rw [if_neg hf]
      obtain ⟨k, rfl⟩ := Int.eq_ofNat_of_zero_le (show 0 ≤ m by omega)
      rw [Int.toNat_natCast]
      obtain ⟨I', q1, q2, q3⟩ := zm_feed_l (X := X) (C := zcal X zP (d + 1)) hL (x := x) (y := (k : Int)) k I S.2.2.2.1 (by omega) (by omega) hr
      have e3 : w32 ((k : Int) - 1) = (k : Int) - 1 := zw32 (by omega) (by omega)
      refine ⟨I', ?_, q2, q3⟩
      refine ((zcal_go zp_M_feed rfl).trans zb_M_feed_0).trans ?_
      simp only [if_true, if_false, Option.bind_some, Option.bind, Option.toList, List.cons_append, List.nil_append, zite0, zite1, zite01, znn, ite_not, true_or, or_true, true_and, and_true, zn10, zn00, zk_135 hL, zr_135_0 hL, z6_0 hL, z6_1 hL, z6_2 hL, z6_3 hL, z6_4 hL, hb, zb_M_feed_9, e2, eq_false hf, e3]
      exact q1
  · rw [if_neg hm] at hb ⊢
    obtain ⟨I', h1, h2, h3⟩ := zM_findsc (X := X) (d := d) (k := 0) (c := -1000001) (k' := 0) hL ho (by omega) (by omega) (by omega) hr
    refine ⟨I', ?_, h2, h3⟩
    refine ((zcal_go zp_M_feed rfl).trans zb_M_feed_0).trans ?_
    simp only [if_true, if_false, Option.bind_some, Option.bind, Option.toList, List.cons_append, List.nil_append, zite0, zite1, zite01, znn, ite_not, true_or, or_true, true_and, and_true, zn10, zn00, zk_135 hL, zr_135_0 hL, z6_0 hL, z6_1 hL, z6_2 hL, z6_3 hL, z6_4 hL, hb, zb_M_feed_9, h1, zb_M_feed_17]
theorem zo_feed (ho : zSOK n S) (hn : n < 100000) {x m : Int} : zSOK (n + 1) (zr_feed S x m).2 := by
  unfold zr_feed
  split
  · split
    · exact zSOK_f ho (by omega) hn
    · obtain ⟨h1, h2, h3, h4, h5, h6⟩ := zSOK_up ho hn
      refine ⟨h1, h2, h3, ?_, zfd_ok _ _ h5, h6⟩
      show (zfd x m.toNat S.2.2.2.1).1 ≤ 120
      rw [zfd_1]
      omega
  · exact zSOK_f ho (by omega) hn
theorem zA35 (hL : zLay L) : zA_35 X L := fun n a1 a2 _ _ S ho hn => zCI (zr_feed S a1 a2) (by unfold zr_feed; repeat' (first | exact ⟨_, rfl⟩ | refine zif1 ?_ ?_)) (zx_feed (d := 38) hL ho) (zm_feed (d := 38) hL ho) (zo_feed ho hn)
end
