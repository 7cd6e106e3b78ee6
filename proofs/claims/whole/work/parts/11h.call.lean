/-! CALLS, HALF BY HALF: goes, of, change. -/
theorem zp14 {L : zLt} (hL : zLay L) {i : Nat} (h : i < 14) : L.1 3 i = 7 + i ∧ L.2.1 (7 + i) = (1, (2, 0)) := (ztabL hL (Or.inl rfl)).2.2.2.2.2.2.2.2.2.1 i h
theorem zc3 {L : zLt} (hL : zLay L) {i : Nat} (h : i < 14) : (((L.2.1 3).1 = 5 ∨ (L.2.1 3).1 = 6) ∧ 0 ≤ (i : Int) ∧ (i : Int) < ((L.2.1 3).2.1 : Int)) = True := by
  rw [zk_3 hL]
  exact eq_true ⟨Or.inl rfl, by omega, by show (i : Int) < ((14 : Nat) : Int); omega⟩
section
variable {X : zX} {d n : Nat} {L : zLt} {S : zSt}
def zr_goes (S : zSt) (p k : Int) : zV × zSt := if (0 ≤ p ∧ p ≤ S.1.1 0 - 1) ∧ (0 ≤ k ∧ k ≤ (S.1.2.1 : Int)) then (.inl (zthingAt S.1 k.toNat p), S) else (.inl (-1000001), zSf S 0)
theorem zx_goes_l {I : Nat → Nat → Int} (hL : zLay L) (ho : zSOK n S) (hr : zRX I S) {k : Nat} {p : Int} (hk : k ≤ S.1.2.1) : ∀ (m i : Nat) (a : Int), i + m = k → zgo X (zcal X zP (d + 3)) zc_X_goes 28 [some (.inr (.inr (.inl 1))), some (.inl p), some (.inl (k : Int)), some (.inl a), some (.inl (i : Int))] [] (I, L) = some (some (.inl (zfor (fun i a => zthing (S.1.2.2 i).1 (S.1.2.2 i).2.1 (S.1.2.2 i).2.2 a) m i a)), (I, L)) := by
  have h14 := ho.1.2.2.2.2.1
  intro m
  induction m with
  | zero =>
    intro i a hi
    rw [zb_X_goes_28, if_neg (by omega)]
    rfl
  | succ m ih =>
    intro i a hi
    obtain ⟨l3, l4⟩ := zp14 hL (show i < 14 by omega)
    obtain ⟨p1, p2, p3⟩ := hr.1.2.2.2.2.2.1 i (by omega)
    obtain ⟨-, -, -, o7⟩ := ho.1.2.2.2.2.2.1 i (by omega)
    have hp := zq_Pass_thingBehind (X := X) (d := d) (σ := (I, L)) (p := 7 + i) (v := a) l4 (by show I (2 + 5 + i) 1 ≠ I (2 + 5 + i) 2; rw [p2, p3]; exact o7)
    have p1 : I (7 + i) 0 = _ := p1
    have p2 : I (7 + i) 1 = _ := p2
    have p3 : I (7 + i) 2 = _ := p3
    rw [zb_X_goes_28, if_pos (by omega)]
    simp only [if_true, if_false, Option.bind_some, Option.bind, Option.toList, List.cons_append, List.nil_append, zite0, zite1, zite01, znn, ite_not, true_or, or_true, true_and, and_true, zk_1 hL, zr_1_0 hL, zk_2 hL, zr_2_5 hL, zc3 hL (show i < 14 by omega), Int.toNat_natCast, l3, l4, hp, p1, p2, p3, zb_X_goes_48]
    rw [zw32n (by omega), ih _ _ (by omega)]
    rfl
theorem zx_goes (hL : zLay L) (ho : zSOK n S) {p k : Int} : zHX X L (d + 4) 77 [.inl p, .inl k] S (zr_goes S p k) := by
  intro I hr
  have hb := zq_X_isPlace (X := X) (d := d + 1) (v := p) hL hr.1 ho.1
  have hc := zq_X_isBehind (X := X) (d := d + 1) (v := k) hL hr.1 ho.1
  obtain ⟨I', h1, h2, h3⟩ := zX_tellc (X := X) (d := d + 2) (k := 0) (c := -1000001) hL ho (by omega) (by omega) hr
  unfold zr_goes
  by_cases hp : 0 ≤ p ∧ p ≤ S.1.1 0 - 1
  · rw [if_pos hp] at hb
    by_cases hk : 0 ≤ k ∧ k ≤ (S.1.2.1 : Int)
    · rw [if_pos hk] at hc
      rw [if_pos ⟨hp, hk⟩]
      obtain ⟨m, rfl⟩ := Int.eq_ofNat_of_zero_le hk.1
      refine ⟨I, ?_, hr, fun a ha => rfl⟩
      refine ((zcal_go zp_X_goes rfl).trans zb_X_goes_0).trans ?_
      simp only [if_true, if_false, Option.bind_some, Option.bind, Option.toList, List.cons_append, List.nil_append, zite0, zite1, zite01, znn, ite_not, true_or, or_true, true_and, and_true, zk_1 hL, hb, zb_X_goes_5, hc, zb_X_goes_13, Int.toNat_natCast]
      exact zx_goes_l hL ho hr (by omega) m 0 p (by omega)
    · rw [if_neg hk] at hc
      rw [if_neg (fun h => hk h.2)]
      refine ⟨I', ?_, h2, h3⟩
      refine ((zcal_go zp_X_goes rfl).trans zb_X_goes_0).trans ?_
      simp only [if_true, if_false, Option.bind_some, Option.bind, Option.toList, List.cons_append, List.nil_append, zite0, zite1, zite01, znn, ite_not, true_or, or_true, true_and, and_true, zk_1 hL, hb, zb_X_goes_5, hc, zb_X_goes_13, h1, zb_X_goes_22]
      rfl
  · rw [if_neg hp] at hb
    rw [if_neg (fun h => hp h.1)]
    refine ⟨I', ?_, h2, h3⟩
    refine ((zcal_go zp_X_goes rfl).trans zb_X_goes_0).trans ?_
    simp only [if_true, if_false, Option.bind_some, Option.bind, Option.toList, List.cons_append, List.nil_append, zite0, zite1, zite01, znn, ite_not, true_or, or_true, true_and, and_true, zk_1 hL, hb, zb_X_goes_5, h1, zb_X_goes_22]
theorem zm_goes_l {I : Nat → Nat → Int} (hL : zLay L) (ho : zSOK n S) (hr : zRM I S) {k : Nat} {p : Int} (hk : k ≤ S.1.2.1) : ∀ (m i : Nat) (a : Int), i + m = k → zgo X (zcal X zP (d + 2)) zc_M_goes 35 [some (.inr (.inr (.inl 135))), some (.inl p), some (.inl (k : Int)), some (.inl a), some (.inl (i : Int))] [] (I, L) = some (some (.inl (zfor (fun i a => zthing (S.1.2.2 i).1 (S.1.2.2 i).2.1 (S.1.2.2 i).2.2 a) m i a)), (I, L)) := by
  have h14 := ho.1.2.2.2.2.1
  intro m
  induction m with
  | zero =>
    intro i a hi
    rw [zb_M_goes_35, if_neg (by omega)]
    rfl
  | succ m ih =>
    intro i a hi
    obtain ⟨-, q2, q3, q4⟩ := ho.1.2.2.2.2.2.1 i (by omega)
    rw [zb_M_goes_35, if_pos (by omega)]
    simp only [if_true, if_false, Option.bind_some, Option.bind, Option.toList, List.cons_append, List.nil_append, zite0, zite1, zite01, znn, ite_not, true_or, or_true, true_and, and_true, zk_135 hL, zq_M_its0 hL hr.1 ho.1 (show i < S.1.2.1 by omega), zb_M_goes_48, zq_M_its1 hL hr.1 ho.1 (show i < S.1.2.1 by omega), zb_M_goes_55, zq_M_its2 hL hr.1 ho.1 (show i < S.1.2.1 by omega), zb_M_goes_62]
    rw [zq_M_cupBy q4]
    simp only [if_true, if_false, Option.bind_some, Option.bind, Option.toList, List.cons_append, List.nil_append, zite0, zite1, zite01, znn, ite_not, true_or, or_true, true_and, and_true, zb_M_goes_66]
    rw [zw32n (by omega), ih _ _ (by omega)]
    rfl
theorem zm_goes (hL : zLay L) (ho : zSOK n S) {p k : Int} : zHM X L (d + 3) 161 [.inl p, .inl k] S (zr_goes S p k) := by
  intro I hr
  have e : I 136 1 = (S.1.2.1 : Int) := hr.1.2.1
  have hb := zq_M_isPlace (X := X) (d := d) (v := p) hL hr.1 ho.1
  have hc := zq_M_in (X := X) (d := d + 1) (σ := (I, L)) (v := k) (a := 0) (b := (S.1.2.1 : Int))
  obtain ⟨I', h1, h2, h3⟩ := zM_findsc (X := X) (d := d + 1) (k := 0) (c := -1000001) (k' := 0) hL ho (by omega) (by omega) (by omega) hr
  unfold zr_goes
  by_cases hp : 0 ≤ p ∧ p ≤ S.1.1 0 - 1
  · rw [if_pos hp] at hb
    by_cases hk : 0 ≤ k ∧ k ≤ (S.1.2.1 : Int)
    · rw [if_pos hk] at hc
      rw [if_pos ⟨hp, hk⟩]
      obtain ⟨m, rfl⟩ := Int.eq_ofNat_of_zero_le hk.1
      refine ⟨I, ?_, hr, fun a ha => rfl⟩
      refine ((zcal_go zp_M_goes rfl).trans zb_M_goes_0).trans ?_
      simp only [if_true, if_false, Option.bind_some, Option.bind, Option.toList, List.cons_append, List.nil_append, zite0, zite1, zite01, znn, ite_not, true_or, or_true, true_and, and_true, zk_135 hL, zr_135_0 hL, z6_1 hL, e, hb, zb_M_goes_5, hc, zb_M_goes_21, Int.toNat_natCast]
      exact zm_goes_l hL ho hr (by omega) m 0 p (by omega)
    · rw [if_neg hk] at hc
      rw [if_neg (fun h => hk h.2)]
      refine ⟨I', ?_, h2, h3⟩
      refine ((zcal_go zp_M_goes rfl).trans zb_M_goes_0).trans ?_
      simp only [if_true, if_false, Option.bind_some, Option.bind, Option.toList, List.cons_append, List.nil_append, zite0, zite1, zite01, znn, ite_not, true_or, or_true, true_and, and_true, zk_135 hL, zr_135_0 hL, z6_1 hL, e, hb, zb_M_goes_5, hc, zb_M_goes_21, h1, zb_M_goes_29]
      rfl
  · rw [if_neg hp] at hb
    rw [if_neg (fun h => hp h.1)]
    refine ⟨I', ?_, h2, h3⟩
    refine ((zcal_go zp_M_goes rfl).trans zb_M_goes_0).trans ?_
    simp only [if_true, if_false, Option.bind_some, Option.bind, Option.toList, List.cons_append, List.nil_append, zite0, zite1, zite01, znn, ite_not, true_or, or_true, true_and, and_true, zk_135 hL, hb, zb_M_goes_5, h1, zb_M_goes_29]
theorem zo_goes (ho : zSOK n S) (hn : n < 100000) {p k : Int} : zSOK (n + 1) (zr_goes S p k).2 := by
  unfold zr_goes
  split
  · exact zSOK_up ho hn
  · exact zSOK_f ho (by omega) hn
/-- the kind of a pass is told anew -/
def zTkind (T : zTb) (i : Nat) (v : Int) : zTb := (T.1, (T.2.1, fun j => if j = i then (v, (T.2.2 j).2) else T.2.2 j))
def zr_change (S : zSt) (p v : Int) : zV × zSt := if (0 ≤ p ∧ p ≤ (S.1.2.1 : Int) - 1) ∧ (0 ≤ v ∧ v ≤ 6) then (.inl (S.1.2.2 p.toNat).1, zS1 S (zTkind S.1 p.toNat v)) else (.inl (-1000001), zSf S 0)
theorem zTC_kind {I : Nat → Nat → Int} {t i : Nat} {v : Int} {T : zTb} (h14 : T.2.1 ≤ 14) (hi : i < T.2.1) (h : zTC I t T) : zTC (zwI I (t + 5 + i) 0 v) t (zTkind T i v) := by
  obtain ⟨h1, h2, h3, h4, h5, h6, h7, h8, h9⟩ := h
  refine ⟨(zwI_ne (by omega)).trans h1, (zwI_ne (by omega)).trans h2, (zwI_ne (by omega)).trans h3, (zwI_ne (by omega)).trans h4, (zwI_ne (by omega)).trans h5, fun j hj => ?_, fun k hk => ?_, fun p q hp hq => ?_, fun s hs => ?_⟩
  · have hj : j < T.2.1 := hj
    show _ = (if j = i then (v, (T.2.2 j).2) else T.2.2 j).1 ∧ _ = (if j = i then (v, (T.2.2 j).2) else T.2.2 j).2.1 ∧ _ = (if j = i then (v, (T.2.2 j).2) else T.2.2 j).2.2
    obtain ⟨a, b, c⟩ := h6 j hj
    by_cases e : j = i
    · rw [if_pos e, ← e, zwI_eq, zwI_nej (by omega), zwI_nej (by omega)]; exact ⟨rfl, b, c⟩
    · rw [if_neg e, zwI_row (by omega)]; exact ⟨a, b, c⟩
  · rw [zwI_row (by omega)]; exact h7 k hk
  · rw [zwI_row (by omega)]; exact h8 p q hp hq
  · rw [zwI_row (by omega)]; exact h9 s hs
theorem zTM_kind {I : Nat → Nat → Int} {a i : Nat} {v : Int} {T : zTb} (h14 : T.2.1 ≤ 14) (hi : i < T.2.1) (h : zTM I a T) : zTM (zwI I a (5 + 3 * i) v) a (zTkind T i v) := by
  obtain ⟨h1, h2, h3⟩ := h
  refine ⟨fun j hj => (zwI_nej (by omega)).trans (h1 j hj), (zwI_nej (by omega)).trans h2, fun j hj => ?_⟩
  have hj : j < T.2.1 := hj
  show _ = (if j = i then (v, (T.2.2 j).2) else T.2.2 j).1 ∧ _ = (if j = i then (v, (T.2.2 j).2) else T.2.2 j).2.1 ∧ _ = (if j = i then (v, (T.2.2 j).2) else T.2.2 j).2.2
  obtain ⟨a, b, c⟩ := h3 j hj
  by_cases e : j = i
  · rw [if_pos e, ← e, zwI_eq, zwI_nej (by omega), zwI_nej (by omega)]; exact ⟨rfl, b, c⟩
  · rw [if_neg e, zwI_nej (by omega), zwI_nej (by omega), zwI_nej (by omega)]; exact ⟨a, b, c⟩
theorem zTOK_kind {i : Nat} {v : Int} {T : zTb} (hv : 0 ≤ v ∧ v ≤ 6) (h : zTOK n T) : zTOK n (zTkind T i v) := by
  obtain ⟨a1, a2, a3, a4, a5, a6, a7⟩ := h
  refine ⟨a1, a2, a3, a4, a5, fun j hj => ?_, a7⟩
  obtain ⟨b1, b2⟩ := a6 j hj
  show (0 ≤ (if j = i then (v, (T.2.2 j).2) else T.2.2 j).1 ∧ (if j = i then (v, (T.2.2 j).2) else T.2.2 j).1 < 7) ∧ (0 ≤ (if j = i then (v, (T.2.2 j).2) else T.2.2 j).2.1 ∧ (if j = i then (v, (T.2.2 j).2) else T.2.2 j).2.1 < T.1 0) ∧ (0 ≤ (if j = i then (v, (T.2.2 j).2) else T.2.2 j).2.2 ∧ (if j = i then (v, (T.2.2 j).2) else T.2.2 j).2.2 < T.1 0) ∧ (if j = i then (v, (T.2.2 j).2) else T.2.2 j).2.1 ≠ (if j = i then (v, (T.2.2 j).2) else T.2.2 j).2.2
  by_cases e : j = i
  · rw [if_pos e]; exact ⟨⟨hv.1, by show v < 7; omega⟩, b2⟩
  · rw [if_neg e]; exact ⟨b1, b2⟩
theorem zx_change (hL : zLay L) (ho : zSOK n S) {p v : Int} : zHX X L (d + 3) 74 [.inl p, .inl v] S (zr_change S p v) := by
  intro I hr
  have h14 := ho.1.2.2.2.2.1
  have hb := zq_X_isPass (X := X) (d := d) (v := p) hL hr.1 ho.1
  have hc := zq_X_isKind (X := X) (d := d) (σ := (I, L)) (v := v)
  obtain ⟨I', h1, h2, h3⟩ := zX_tellc (X := X) (d := d + 1) (k := 0) (c := -1000001) hL ho (by omega) (by omega) hr
  unfold zr_change
  by_cases hp : 0 ≤ p ∧ p ≤ (S.1.2.1 : Int) - 1
  · rw [if_pos hp] at hb
    by_cases hk : 0 ≤ v ∧ v ≤ 6
    · rw [if_pos hk] at hc
      rw [if_pos ⟨hp, hk⟩]
      obtain ⟨m, rfl⟩ := Int.eq_ofNat_of_zero_le hp.1
      obtain ⟨l3, l4⟩ := zp14 hL (show m < 14 by omega)
      refine ⟨zwI I (7 + m) 0 v, ?_, zRX_T ho (zkeepX_2 (by omega)) (zTC_kind (t := 2) h14 (by omega) hr.1) hr, fun a ha => zwI_row (by omega)⟩
      have p1 : I (7 + m) 0 = (S.1.2.2 m).1 := (hr.1.2.2.2.2.2.1 m (by omega)).1
      refine ((zcal_go zp_X_change rfl).trans zb_X_change_0).trans ?_
      simp only [if_true, if_false, Option.bind_some, Option.bind, Option.toList, List.cons_append, List.nil_append, zite0, zite1, zite01, znn, ite_not, true_or, or_true, true_and, and_true, zk_1 hL, hb, zb_X_change_5, hc, zb_X_change_12, zr_1_0 hL, zk_2 hL, zr_2_5 hL, zc3 hL (show m < 14 by omega), Int.toNat_natCast, l3, l4, p1, zw_I]
      rfl
    · rw [if_neg hk] at hc
      rw [if_neg (fun h => hk h.2)]
      refine ⟨I', ?_, h2, h3⟩
      refine ((zcal_go zp_X_change rfl).trans zb_X_change_0).trans ?_
      simp only [if_true, if_false, Option.bind_some, Option.bind, Option.toList, List.cons_append, List.nil_append, zite0, zite1, zite01, znn, ite_not, true_or, or_true, true_and, and_true, zk_1 hL, hb, zb_X_change_5, hc, zb_X_change_12, h1, zb_X_change_21]
      rfl
  · rw [if_neg hp] at hb
    rw [if_neg (fun h => hp h.1)]
    refine ⟨I', ?_, h2, h3⟩
    refine ((zcal_go zp_X_change rfl).trans zb_X_change_0).trans ?_
    simp only [if_true, if_false, Option.bind_some, Option.bind, Option.toList, List.cons_append, List.nil_append, zite0, zite1, zite01, znn, ite_not, true_or, or_true, true_and, and_true, zk_1 hL, hb, zb_X_change_5, h1, zb_X_change_21]
theorem zm_change (hL : zLay L) (ho : zSOK n S) {p v : Int} : zHM X L (d + 3) 157 [.inl p, .inl v] S (zr_change S p v) := by
  intro I hr
  have h14 := ho.1.2.2.2.2.1
  have hb := zq_M_isPass (X := X) (d := d) (v := p) hL hr.1 ho.1
  have hc := zq_M_in (X := X) (d := d + 1) (σ := (I, L)) (v := v) (a := 0) (b := 6)
  obtain ⟨I', h1, h2, h3⟩ := zM_findsc (X := X) (d := d + 1) (k := 0) (c := -1000001) (k' := 0) hL ho (by omega) (by omega) (by omega) hr
  unfold zr_change
  by_cases hp : 0 ≤ p ∧ p ≤ (S.1.2.1 : Int) - 1
  · rw [if_pos hp] at hb
    by_cases hk : 0 ≤ v ∧ v ≤ 6
    · rw [if_pos hk] at hc
      rw [if_pos ⟨hp, hk⟩]
      obtain ⟨m, rfl⟩ := Int.eq_ofNat_of_zero_le hp.1
      refine ⟨zwI I 136 (5 + 3 * m) v, ?_, zRM_T zkeepM_136 (zTM_kind h14 (by omega) hr.1) hr, fun a ha => zwI_row (by omega)⟩
      have e : w32 (5 + (w32 (3 * (m : Int)))) = ((5 + 3 * m : Nat) : Int) := by unfold w32; omega
      refine ((zcal_go zp_M_change rfl).trans zb_M_change_0).trans ?_
      simp only [if_true, if_false, Option.bind_some, Option.bind, Option.toList, List.cons_append, List.nil_append, zite0, zite1, zite01, znn, ite_not, true_or, or_true, true_and, and_true, zk_135 hL, hb, zb_M_change_5, hc, zb_M_change_17, zq_M_its0 hL hr.1 ho.1 (show m < S.1.2.1 by omega), zb_M_change_32, zr_135_0 hL, e, zd136 hL (show 0 ≤ ((5 + 3 * m : Nat) : Int) ∧ ((5 + 3 * m : Nat) : Int) < 96 by omega), Int.toNat_natCast, zw_I]
      rfl
    · rw [if_neg hk] at hc
      rw [if_neg (fun h => hk h.2)]
      refine ⟨I', ?_, h2, h3⟩
      refine ((zcal_go zp_M_change rfl).trans zb_M_change_0).trans ?_
      simp only [if_true, if_false, Option.bind_some, Option.bind, Option.toList, List.cons_append, List.nil_append, zite0, zite1, zite01, znn, ite_not, true_or, or_true, true_and, and_true, zk_135 hL, hb, zb_M_change_5, hc, zb_M_change_17, h1, zb_M_change_25]
      rfl
  · rw [if_neg hp] at hb
    rw [if_neg (fun h => hp h.1)]
    refine ⟨I', ?_, h2, h3⟩
    refine ((zcal_go zp_M_change rfl).trans zb_M_change_0).trans ?_
    simp only [if_true, if_false, Option.bind_some, Option.bind, Option.toList, List.cons_append, List.nil_append, zite0, zite1, zite01, znn, ite_not, true_or, or_true, true_and, and_true, zk_135 hL, hb, zb_M_change_5, h1, zb_M_change_25]
theorem zo_change (ho : zSOK n S) (hn : n < 100000) {p v : Int} : zSOK (n + 1) (zr_change S p v).2 := by
  unfold zr_change
  split
  · next h =>
    obtain ⟨h1, h2⟩ := zSOK_up ho hn
    exact ⟨zTOK_kind h.2 h1, h2⟩
  · exact zSOK_f ho (by omega) hn
end
