/-! CONTRACTS OF CALLS: now, status, count, as. -/
section
variable {X : zX} {C : zC} {d n : Nat} {L : zLt} {S : zSt} {I : Nat → Nat → Int}
def zsm (f : Nat → Int) (i : Nat) (a : Int) : Int := w32 (a + f i)
def zwl (T : zTb) (i : Nat) (a : Int) : Int := if zgone (T.1 (55 + 4 * i)) (T.1 (55 + 4 * i + 3)) (T.1 (55 + 4 * i + 2)) = 0 then a else zor a (zshl 1 (i : Int))
theorem zx_whoLeft_l (hL : zLay L) (hr : zRX I S) : ∀ (m i : Nat) (a : Int), i + m = 4 → zgo X (zcal X zP (d + 2)) zc_Table_whoLeft 4 [some (.inr (.inr (.inl 2))), some (.inl a), some (.inl (i : Int))] [] (I, L) = some (some (.inl (zfor (zwl S.1) m i a)), (I, L)) := by
  have h8 := hr.1.2.2.2.2.2.2.2.1
  intro m
  induction m with
  | zero =>
    intro i a hi
    rw [zb_Table_whoLeft_4, if_neg (by omega)]
    rfl
  | succ m ih =>
    intro i a hi
    obtain ⟨l3, l4⟩ := zpl hL (show i < 4 by omega)
    have hq := zq_Player_hasLeft (X := X) (d := d) (σ := (I, L)) (p := 25 + i) l4
    have q0 : I (25 + i) 0 = S.1.1 (55 + 4 * i) := h8 i 0 (by omega) (by omega)
    have q2 : I (25 + i) 2 = S.1.1 (55 + 4 * i + 2) := h8 i 2 (by omega) (by omega)
    have q3 : I (25 + i) 3 = S.1.1 (55 + 4 * i + 3) := h8 i 3 (by omega) (by omega)
    rw [zb_Table_whoLeft_4, if_pos (by omega)]
    simp only [if_true, if_false, Option.bind_some, Option.bind, Option.toList, List.cons_append, List.nil_append, zite0, zite1, zite01, znn, ite_not, true_or, or_true, true_and, and_true, zn10, zn00, zk_2 hL, zr_2_7 hL, zc5 hL (show i < 4 by omega), Int.toNat_natCast, l3, l4, hq, q0, q2, q3, zb_Table_whoLeft_18]
    rw [zw32n (by omega), ih _ _ (by omega), ih _ _ (by omega)]
    show _ = some (some (Sum.inl (zfor (zwl S.1) m (i + 1) (zwl S.1 i a))), (I, L))
    unfold zwl
    split <;> rfl
theorem zm_now_l (hL : zLay L) (ho : zSOK n S) (hr : zRM I S) {w : Int} (hw : 0 ≤ w ∧ w ≤ 4) : ∀ (m i : Nat) (a : Int), i + m = 4 → zint a → zgo X (zcal X zP (d + 2)) zc_M_now 22 [some (.inr (.inr (.inl 135))), some (.inl w), some (.inl a), some (.inl (i : Int))] [] (I, L) = some (some (.inl (if w = 0 then S.1.1 4 else if w = 1 then S.1.1 0 else if w = 2 then (S.1.2.1 : Int) else if w = 3 then S.1.1 2 else zfor (zwl S.1) m i a)), (I, L)) := by
  have e0 : I 136 0 = S.1.1 0 := hr.1.1 0 (by omega)
  have e1 : I 136 1 = (S.1.2.1 : Int) := hr.1.2.1
  have e2 : I 136 2 = S.1.1 2 := hr.1.1 2 (by omega)
  have e4 : I 136 4 = S.1.1 4 := hr.1.1 4 (by omega)
  intro m
  induction m with
  | zero =>
    intro i a hi ha
    rw [zb_M_now_22, if_neg (by omega)]
    simp only [if_true, if_false, Option.bind_some, Option.bind, Option.toList, List.cons_append, List.nil_append, zite0, zite1, zite01, znn, ite_not, true_or, or_true, true_and, and_true, zn10, zn00, zk_135 hL, zr_135_0 hL, z6_0 hL, z6_1 hL, z6_2 hL, z6_3 hL, z6_4 hL, e0, e1, e2, e4]
    repeat' split
    all_goals rfl
  | succ m ih =>
    intro i a hi ha
    have hq := zq_M_hasLeft (X := X) (d := d) hL ho hr (show i < 4 by omega)
    rw [zb_M_now_22, if_pos (by omega)]
    simp only [if_true, if_false, Option.bind_some, Option.bind, Option.toList, List.cons_append, List.nil_append, zite0, zite1, zite01, znn, ite_not, true_or, or_true, true_and, and_true, zn10, zn00, zk_135 hL, zr_135_0 hL, z6_0 hL, z6_1 hL, z6_2 hL, z6_3 hL, z6_4 hL, hq, zb_M_now_33]
    rw [zw32n (by omega), zor_0 ha, ih _ _ (by omega) ha, ih _ _ (by omega) zor_int]
    have e : zfor (zwl S.1) (m + 1) i a = zfor (zwl S.1) m (i + 1) (zwl S.1 i a) := rfl
    rw [e]
    unfold zwl
    split <;> rfl
def zr_now (S : zSt) (w : Int) : zV × zSt := if 0 ≤ w ∧ w ≤ 4 then (.inl (if w = 0 then S.1.1 4 else if w = 1 then S.1.1 0 else if w = 2 then (S.1.2.1 : Int) else if w = 3 then S.1.1 2 else zfor (zwl S.1) 4 0 0), S) else (.inl (-1000001), zSf S 0)
theorem zx_now (hL : zLay L) (ho : zSOK n S) {w : Int} : zHX X L (d + 4) 102 [.inl w] S (zr_now S w) := by
  intro I hr
  obtain ⟨h1, h2, h3, h4, h5, -⟩ := hr.1
  unfold zr_now
  by_cases hw : 0 ≤ w ∧ w ≤ 4
  · rw [if_pos hw]
    refine ⟨I, ?_, hr, fun a ha => rfl⟩
    refine ((zcal_go zp_X_now rfl).trans zb_X_now_0).trans ?_
    rcases (show w = 0 ∨ w = 1 ∨ w = 2 ∨ w = 3 ∨ w = 4 by omega) with rfl | rfl | rfl | rfl | rfl
    · refine zb_X_now_1_0.trans ?_
      simp only [if_true, if_false, Option.bind_some, Option.bind, Option.toList, List.cons_append, List.nil_append, zite0, zite1, zite01, znn, ite_not, true_or, or_true, true_and, and_true, zn10, zn00, zk_1 hL, zr_1_0 hL, zk_2 hL, h4]
    · refine zb_X_now_1_1.trans ?_
      simp only [if_true, if_false, Option.bind_some, Option.bind, Option.toList, List.cons_append, List.nil_append, zite0, zite1, zite01, znn, ite_not, true_or, or_true, true_and, and_true, zn10, zn00, zk_1 hL, zr_1_0 hL, zk_2 hL, h1]
      try rfl
    · refine zb_X_now_1_2.trans ?_
      simp only [if_true, if_false, Option.bind_some, Option.bind, Option.toList, List.cons_append, List.nil_append, zite0, zite1, zite01, znn, ite_not, true_or, or_true, true_and, and_true, zn10, zn00, zk_1 hL, zr_1_0 hL, zk_2 hL, h3]
      try rfl
    · refine zb_X_now_1_3.trans ?_
      simp only [if_true, if_false, Option.bind_some, Option.bind, Option.toList, List.cons_append, List.nil_append, zite0, zite1, zite01, znn, ite_not, true_or, or_true, true_and, and_true, zn10, zn00, zk_1 hL, zr_1_0 hL, zk_2 hL, h2]
      try rfl
    · have hq : zcal X zP (d + 3) 49 [.inr (.inr (.inl 2))] (I, L) = some (some (.inl (zfor (zwl S.1) 4 0 0)), (I, L)) := by
        refine ((zcal_go zp_Table_whoLeft rfl).trans zb_Table_whoLeft_0).trans ?_
        exact zx_whoLeft_l hL hr 4 0 0 rfl
      refine zb_X_now_1_4.trans ?_
      simp only [if_true, if_false, Option.bind_some, Option.bind, Option.toList, List.cons_append, List.nil_append, zite0, zite1, zite01, znn, ite_not, true_or, or_true, true_and, and_true, zn10, zn00, zk_1 hL, zr_1_0 hL, zk_2 hL, hq, zb_X_now_75]
      try rfl
  · rw [if_neg hw]
    obtain ⟨I', h1, h2, h3⟩ := zX_tellc (X := X) (d := d + 2) (k := 0) (c := -1000001) hL ho (by omega) (by omega) hr
    refine ⟨I', ?_, h2, h3⟩
    refine ((zcal_go zp_X_now rfl).trans zb_X_now_0).trans ?_
    refine (zb_X_now_1_d (by omega)).trans ?_
    simp only [if_true, if_false, Option.bind_some, Option.bind, Option.toList, List.cons_append, List.nil_append, zite0, zite1, zite01, znn, ite_not, true_or, or_true, true_and, and_true, zn10, zn00, zk_1 hL, zr_1_0 hL, zk_2 hL, h1, zb_X_now_76, zb_X_now_82]
theorem zm_now (hL : zLay L) (ho : zSOK n S) {w : Int} : zHM X L (d + 3) 208 [.inl w] S (zr_now S w) := by
  intro I hr
  have hb := zq_M_in (X := X) (d := d + 1) (σ := (I, L)) (v := w) (a := 0) (b := 4)
  unfold zr_now
  by_cases hw : 0 ≤ w ∧ w ≤ 4
  · rw [if_pos hw] at hb ⊢
    refine ⟨I, ?_, hr, fun a ha => rfl⟩
    refine ((zcal_go zp_M_now rfl).trans zb_M_now_0).trans ?_
    simp only [if_true, if_false, Option.bind_some, Option.bind, Option.toList, List.cons_append, List.nil_append, zite0, zite1, zite01, znn, ite_not, true_or, or_true, true_and, and_true, zn10, zn00, hb, zb_M_now_9]
    exact zm_now_l hL ho hr hw 4 0 0 rfl (by unfold zint; omega)
  · rw [if_neg hw] at hb ⊢
    obtain ⟨I', h1, h2, h3⟩ := zM_findsc (X := X) (d := d + 1) (k := 0) (c := -1000001) (k' := 0) hL ho (by omega) (by omega) (by omega) hr
    refine ⟨I', ?_, h2, h3⟩
    refine ((zcal_go zp_M_now rfl).trans zb_M_now_0).trans ?_
    simp only [if_true, if_false, Option.bind_some, Option.bind, Option.toList, List.cons_append, List.nil_append, zite0, zite1, zite01, znn, ite_not, true_or, or_true, true_and, and_true, zn10, zn00, hb, zb_M_now_9, zk_135 hL, zr_135_0 hL, z6_0 hL, z6_1 hL, z6_2 hL, z6_3 hL, z6_4 hL, h1, zb_M_now_17]
theorem zo_now (ho : zSOK n S) (hn : n < 100000) {w : Int} : zSOK (n + 1) (zr_now S w).2 := by
  unfold zr_now
  split
  · exact zSOK_up ho hn
  · exact zSOK_f ho (by omega) hn
theorem zA32 (hL : zLay L) : zA_32 X L := fun n a1 _ S ho hn => zCI (zr_now S a1) (by unfold zr_now; repeat' (first | exact ⟨_, rfl⟩ | refine zif1 ?_ ?_)) (zx_now (d := 36) hL ho) (zm_now (d := 37) hL ho) (zo_now ho hn)
/-- status -/
theorem zc126 (hL : zLay L) {i : Nat} (h : i < 7) : ((L.2.1 126).1 = 2 ∧ 0 ≤ (i : Int) ∧ (i : Int) < ((L.2.1 126).2.1 : Int)) = True := by
  rw [zk_126 hL]
  exact eq_true ⟨rfl, by omega, by show (i : Int) < ((7 : Nat) : Int); omega⟩
theorem zc139 (hL : zLay L) {i : Nat} (h : i < 7) : ((L.2.1 139).1 = 2 ∧ 0 ≤ (i : Int) ∧ (i : Int) < ((L.2.1 139).2.1 : Int)) = True := by
  rw [zk_139 hL]
  exact eq_true ⟨rfl, by omega, by show (i : Int) < ((7 : Nat) : Int); omega⟩
theorem zx_status_l (hL : zLay L) (hr : zRX I S) {w : Int} : ∀ (m i : Nat) (a : Int), i + m = 7 → zgo X C zc_X_status 32 [some (.inr (.inr (.inl 1))), some (.inl w), some (.inl a), some (.inl (i : Int))] [] (I, L) = some (some (.inl (zfor (zsm S.2.2.2.2.2) m i a)), (I, L)) := by
  intro m
  induction m with
  | zero =>
    intro i a hi
    rw [zb_X_status_32, if_neg (by omega)]
    rfl
  | succ m ih =>
    intro i a hi
    have h7 : I 126 i = S.2.2.2.2.2 i := hr.2.2.2.2.2.2 i (by omega)
    rw [zb_X_status_32, if_pos (by omega)]
    simp only [if_true, if_false, Option.bind_some, Option.bind, Option.toList, List.cons_append, List.nil_append, zite0, zite1, zite01, znn, ite_not, true_or, or_true, true_and, and_true, zn10, zn00, zk_1 hL, zr_1_0 hL, zk_2 hL, zr_1_10 hL, zc126 hL (show i < 7 by omega), Int.toNat_natCast, h7]
    rw [zw32n (by omega), ih _ _ (by omega)]
    rfl
theorem zm_status_l (hL : zLay L) (hr : zRM I S) {w : Int} (hw : -1 ≤ w ∧ w ≤ 6) : ∀ (m i : Nat) (a : Int), i + m = 7 → zgo X C zc_M_status 24 [some (.inr (.inr (.inl 135))), some (.inl w), some (.inl a), some (.inl (i : Int))] [] (I, L) = some (some (.inl (if w < 0 then zfor (zsm S.2.2.2.2.2) m i a else S.2.2.2.2.2 w.toNat)), (I, L)) := by
  intro m
  induction m with
  | zero =>
    intro i a hi
    rw [zb_M_status_24, if_neg (by omega)]
    by_cases hc : w < 0
    · rw [if_pos hc, if_pos hc]
      rfl
    · rw [if_neg hc, if_neg hc]
      obtain ⟨k, rfl⟩ := Int.eq_ofNat_of_zero_le (show 0 ≤ w by omega)
      have h7 : I 139 k = S.2.2.2.2.2 k := hr.2.2.2.2.2.2 k (by omega)
      simp only [if_true, if_false, Option.bind_some, Option.bind, Option.toList, List.cons_append, List.nil_append, zite0, zite1, zite01, znn, ite_not, true_or, or_true, true_and, and_true, zn10, zn00, zk_135 hL, zr_135_0 hL, z6_0 hL, z6_1 hL, z6_2 hL, z6_3 hL, z6_4 hL, zr_135_4 hL, zc139 hL (show k < 7 by omega), Int.toNat_natCast, h7]
  | succ m ih =>
    intro i a hi
    have h7 : I 139 i = S.2.2.2.2.2 i := hr.2.2.2.2.2.2 i (by omega)
    rw [zb_M_status_24, if_pos (by omega)]
    simp only [if_true, if_false, Option.bind_some, Option.bind, Option.toList, List.cons_append, List.nil_append, zite0, zite1, zite01, znn, ite_not, true_or, or_true, true_and, and_true, zn10, zn00, zk_135 hL, zr_135_0 hL, z6_0 hL, z6_1 hL, z6_2 hL, z6_3 hL, z6_4 hL, zr_135_4 hL, zc139 hL (show i < 7 by omega), Int.toNat_natCast, h7]
    rw [zw32n (by omega), ih _ _ (by omega)]
    rfl
def zr_status (S : zSt) (w : Int) : zV × zSt := if -1 ≤ w ∧ w ≤ 6 then (.inl (if w < 0 then zfor (zsm S.2.2.2.2.2) 7 0 0 else S.2.2.2.2.2 w.toNat), S) else (.inl (-1000001), zSf S 0)
theorem zx_status (hL : zLay L) (ho : zSOK n S) {w : Int} : zHX X L (d + 2) 119 [.inl w] S (zr_status S w) := by
  intro I hr
  have hb := zq_X_within (X := X) (d := d) (σ := (I, L)) (v := w) (a := -1) (b := 6)
  unfold zr_status
  by_cases hw : -1 ≤ w ∧ w ≤ 6
  · rw [if_pos hw] at hb ⊢
    refine ⟨I, ?_, hr, fun a ha => rfl⟩
    by_cases hc : w < 0
    · refine ((zcal_go zp_X_status rfl).trans zb_X_status_0).trans ?_
      simp only [if_true, if_false, Option.bind_some, Option.bind, Option.toList, List.cons_append, List.nil_append, zite0, zite1, zite01, znn, ite_not, true_or, or_true, true_and, and_true, zn10, zn00, hb, zb_X_status_7, eq_true hc]
      exact zx_status_l hL hr 7 0 0 rfl
    · obtain ⟨k, rfl⟩ := Int.eq_ofNat_of_zero_le (show 0 ≤ w by omega)
      have h7 : I 126 k = S.2.2.2.2.2 k := hr.2.2.2.2.2.2 k (by omega)
      refine ((zcal_go zp_X_status rfl).trans zb_X_status_0).trans ?_
      simp only [if_true, if_false, Option.bind_some, Option.bind, Option.toList, List.cons_append, List.nil_append, zite0, zite1, zite01, znn, ite_not, true_or, or_true, true_and, and_true, zn10, zn00, hb, zb_X_status_7, eq_false hc, zk_1 hL, zr_1_0 hL, zk_2 hL, zr_1_10 hL, zc126 hL (show k < 7 by omega), Int.toNat_natCast, h7]
  · rw [if_neg hw] at hb ⊢
    obtain ⟨I', h1, h2, h3⟩ := zX_tellc (X := X) (d := d) (k := 0) (c := -1000001) hL ho (by omega) (by omega) hr
    refine ⟨I', ?_, h2, h3⟩
    refine ((zcal_go zp_X_status rfl).trans zb_X_status_0).trans ?_
    simp only [if_true, if_false, Option.bind_some, Option.bind, Option.toList, List.cons_append, List.nil_append, zite0, zite1, zite01, znn, ite_not, true_or, or_true, true_and, and_true, zn10, zn00, hb, zb_X_status_7, zk_1 hL, zr_1_0 hL, zk_2 hL, h1, zb_X_status_16]
theorem zm_status (hL : zLay L) (ho : zSOK n S) {w : Int} : zHM X L (d + 2) 245 [.inl w] S (zr_status S w) := by
  intro I hr
  have hb := zq_M_in (X := X) (d := d) (σ := (I, L)) (v := w) (a := -1) (b := 6)
  unfold zr_status
  by_cases hw : -1 ≤ w ∧ w ≤ 6
  · rw [if_pos hw] at hb ⊢
    refine ⟨I, ?_, hr, fun a ha => rfl⟩
    refine ((zcal_go zp_M_status rfl).trans zb_M_status_0).trans ?_
    simp only [if_true, if_false, Option.bind_some, Option.bind, Option.toList, List.cons_append, List.nil_append, zite0, zite1, zite01, znn, ite_not, true_or, or_true, true_and, and_true, zn10, zn00, hb, zb_M_status_11]
    exact zm_status_l hL hr hw 7 0 0 rfl
  · rw [if_neg hw] at hb ⊢
    obtain ⟨I', h1, h2, h3⟩ := zM_findsc (X := X) (d := d) (k := 0) (c := -1000001) (k' := 0) hL ho (by omega) (by omega) (by omega) hr
    refine ⟨I', ?_, h2, h3⟩
    refine ((zcal_go zp_M_status rfl).trans zb_M_status_0).trans ?_
    simp only [if_true, if_false, Option.bind_some, Option.bind, Option.toList, List.cons_append, List.nil_append, zite0, zite1, zite01, znn, ite_not, true_or, or_true, true_and, and_true, zn10, zn00, hb, zb_M_status_11, zk_135 hL, zr_135_0 hL, z6_0 hL, z6_1 hL, z6_2 hL, z6_3 hL, z6_4 hL, h1, zb_M_status_19]
theorem zo_status (ho : zSOK n S) (hn : n < 100000) {w : Int} : zSOK (n + 1) (zr_status S w).2 := by
  unfold zr_status
  split
  · exact zSOK_up ho hn
  · exact zSOK_f ho (by omega) hn
theorem zA49 (hL : zLay L) : zA_49 X L := fun n a1 _ S ho hn => zCI (zr_status S a1) (by unfold zr_status; repeat' (first | exact ⟨_, rfl⟩ | refine zif1 ?_ ?_)) (zx_status (d := 38) hL ho) (zm_status (d := 38) hL ho) (zo_status ho hn)
/-- count -/
def zspt (T : zTb) (i : Nat) (a : Int) : Int := if 0 < T.1 (71 + i) then w32 (a + 1) else a
theorem zx_sumPl_l (hL : zLay L) (hr : zRX I S) {w : Nat} (hw : w < 4) : ∀ (m i : Nat) (a : Int), i + m = 4 → zgo X (zcal X zP (d + 3)) zc_Table_sumOfPlayers 4 [some (.inr (.inr (.inl 2))), some (.inl (w : Int)), some (.inl a), some (.inl (i : Int))] [] (I, L) = some (some (.inl (zfor (zsm fun i => S.1.1 (55 + 4 * i + w)) m i a)), (I, L)) := by
  intro m
  induction m with
  | zero =>
    intro i a hi
    rw [zb_Table_sumOfPlayers_4, if_neg (by omega)]
    rfl
  | succ m ih =>
    intro i a hi
    obtain ⟨l3, l4⟩ := zpl hL (show i < 4 by omega)
    have hq := zq_tells (X := X) (d := d) hL hr (show i < 4 by omega) (show w < 5 by omega)
    have hown : zown S.1 i w = S.1.1 (55 + 4 * i + w) := if_pos (by omega)
    rw [zb_Table_sumOfPlayers_4, if_pos (by omega)]
    simp only [if_true, if_false, Option.bind_some, Option.bind, Option.toList, List.cons_append, List.nil_append, zite0, zite1, zite01, znn, ite_not, true_or, or_true, true_and, and_true, zn10, zn00, zk_2 hL, zr_2_7 hL, zc5 hL (show i < 4 by omega), Int.toNat_natCast, l3, l4, hq, hown, zb_Table_sumOfPlayers_20]
    rw [zw32n (by omega), ih _ _ (by omega)]
    rfl
theorem zx_sumSl_l (hL : zLay L) (hr : zRX I S) : ∀ (m i : Nat) (a : Int), i + m = 4 → zgo X C zc_Table_sumOfSlips 4 [some (.inr (.inr (.inl 2))), some (.inl a), some (.inl (i : Int))] [] (I, L) = some (some (.inl (zfor (zsm fun i => S.1.1 (47 + 2 * i)) m i a)), (I, L)) := by
  intro m
  induction m with
  | zero =>
    intro i a hi
    rw [zb_Table_sumOfSlips_4, if_neg (by omega)]
    rfl
  | succ m ih =>
    intro i a hi
    obtain ⟨l3, l4⟩ := zey hL (show i < 4 by omega)
    have p0 : I (21 + i) 0 = S.1.1 (47 + 2 * i) := (hr.1.2.2.2.2.2.2.1 i (by omega)).1
    rw [zb_Table_sumOfSlips_4, if_pos (by omega)]
    simp only [if_true, if_false, Option.bind_some, Option.bind, Option.toList, List.cons_append, List.nil_append, zite0, zite1, zite01, znn, ite_not, true_or, or_true, true_and, and_true, zn10, zn00, zk_2 hL, zr_2_6 hL, zc4 hL (show i < 4 by omega), Int.toNat_natCast, l3, l4, p0]
    rw [zw32n (by omega), ih _ _ (by omega)]
    rfl
theorem zc6 (hL : zLay L) {i : Nat} (h : i < 10) : ((L.2.1 6).1 = 2 ∧ 0 ≤ (i : Int) ∧ (i : Int) < ((L.2.1 6).2.1 : Int)) = True := by
  rw [zk_6 hL]
  exact eq_true ⟨rfl, by omega, by show (i : Int) < ((10 : Nat) : Int); omega⟩
theorem zx_spots_l (hL : zLay L) (ho : zSOK n S) (hr : zRX I S) : ∀ (m i : Nat) (a : Int), i + m = 10 → zgo X C zc_Table_fullSpots 4 [some (.inr (.inr (.inl 2))), some (.inl a), some (.inl (i : Int))] [] (I, L) = some (some (.inl (zfor (zspt S.1) m i a)), (I, L)) := by
  intro m
  induction m with
  | zero =>
    intro i a hi
    rw [zb_Table_fullSpots_4, if_neg (by omega)]
    rfl
  | succ m ih =>
    intro i a hi
    have p0 : I 6 i = S.1.1 (71 + i) - 1 := hr.1.2.2.2.2.2.2.2.2 i (by omega)
    have b := ho.1.2.2.2.2.2.2.2.2 i (by omega)
    rw [zb_Table_fullSpots_4, if_pos (by omega)]
    simp only [if_true, if_false, Option.bind_some, Option.bind, Option.toList, List.cons_append, List.nil_append, zite0, zite1, zite01, znn, ite_not, true_or, or_true, true_and, and_true, zn10, zn00, zk_2 hL, zr_2_8 hL, zc6 hL (show i < 10 by omega), Int.toNat_natCast, p0]
    rw [zw32n (by omega), ih _ _ (by omega), ih _ _ (by omega)]
    have e : zfor (zspt S.1) (m + 1) i a = zfor (zspt S.1) m (i + 1) (zspt S.1 i a) := rfl
    rw [e]
    unfold zspt
    by_cases hc : 0 < S.1.1 (71 + i)
    · rw [if_pos hc, if_neg (by omega)]
    · rw [if_neg hc, if_pos (by omega)]
theorem zm_sumOf_l (hL : zLay L) (hr : zRM I S) {f s : Nat} (hs : s ≤ 4) (hf : 47 ≤ f ∧ f + 3 * s < 81) : ∀ (m i : Nat) (a : Int), i + m = 4 → zgo X C zc_M_sumOf 5 [some (.inr (.inr (.inl 135))), some (.inl (f : Int)), some (.inl (s : Int)), some (.inl a), some (.inl (i : Int))] [] (I, L) = some (some (.inl (zfor (zsm fun i => S.1.1 (f + s * i)) m i a)), (I, L)) := by
  intro m
  induction m with
  | zero =>
    intro i a hi
    rw [zb_M_sumOf_5, if_neg (by omega)]
    rfl
  | succ m ih =>
    intro i a hi
    have hsi : s * i ≤ s * 3 := Nat.mul_le_mul_left s (by omega)
    have e : w32 ((f : Int) + (w32 ((s : Int) * (i : Int)))) = ((f + s * i : Nat) : Int) := by
      have e1 : (s : Int) * (i : Int) = ((s * i : Nat) : Int) := by rw [Int.natCast_mul]
      rw [e1]
      unfold w32
      omega
    have p0 : I 136 (f + s * i) = S.1.1 (f + s * i) := hr.1.1 _ (by omega)
    rw [zb_M_sumOf_5, if_pos (by omega)]
    simp only [if_true, if_false, Option.bind_some, Option.bind, Option.toList, List.cons_append, List.nil_append, zite0, zite1, zite01, znn, ite_not, true_or, or_true, true_and, and_true, zn10, zn00, zk_135 hL, zr_135_0 hL, z6_0 hL, z6_1 hL, z6_2 hL, z6_3 hL, z6_4 hL, e, zd136 hL (show 0 ≤ ((f + s * i : Nat) : Int) ∧ ((f + s * i : Nat) : Int) < 96 by omega), Int.toNat_natCast, p0]
    rw [zw32n (by omega), ih _ _ (by omega)]
    rfl
theorem zfor_int {f : Nat → Int → Int} (h : ∀ i a, zint a → zint (f i a)) : ∀ (m i : Nat) (a : Int), zint a → zint (zfor f m i a) := by
  intro m
  induction m with
  | zero => intro i a ha; exact ha
  | succ m ih => intro i a ha; exact ih _ _ (h _ _ ha)
theorem zw32_int {x : Int} : zint (w32 x) := by unfold zint w32; omega
theorem zm_holding_l (hL : zLay L) (hr : zRM I S) : ∀ (m i : Nat) (a : Int), i + m = 10 → zint a → zgo X C zc_M_holding 4 [some (.inr (.inr (.inl 135))), some (.inl a), some (.inl (i : Int))] [] (I, L) = some (some (.inl (zfor (zspt S.1) m i a)), (I, L)) := by
  intro m
  induction m with
  | zero =>
    intro i a hi ha
    rw [zb_M_holding_4, if_neg (by omega)]
    rfl
  | succ m ih =>
    intro i a hi ha
    have e : w32 (71 + (i : Int)) = ((71 + i : Nat) : Int) := by unfold w32; omega
    have p0 : I 136 (71 + i) = S.1.1 (71 + i) := hr.1.1 _ (by omega)
    have e0 : w32 (a + 0) = a := by have := ha.1; have := ha.2; unfold w32; omega
    rw [zb_M_holding_4, if_pos (by omega)]
    simp only [if_true, if_false, Option.bind_some, Option.bind, Option.toList, List.cons_append, List.nil_append, zite0, zite1, zite01, znn, ite_not, true_or, or_true, true_and, and_true, zn10, zn00, zk_135 hL, zr_135_0 hL, z6_0 hL, z6_1 hL, z6_2 hL, z6_3 hL, z6_4 hL, e, e0, zd136 hL (show 0 ≤ ((71 + i : Nat) : Int) ∧ ((71 + i : Nat) : Int) < 96 by omega), Int.toNat_natCast, p0]
    rw [zw32n (by omega), ih _ _ (by omega) zw32_int, ih _ _ (by omega) ha]
    have e : zfor (zspt S.1) (m + 1) i a = zfor (zspt S.1) m (i + 1) (zspt S.1 i a) := rfl
    rw [e]
    unfold zspt
    split <;> rfl
def zr_count (S : zSt) (w : Int) : zV × zSt := if 0 ≤ w ∧ w ≤ 7 then (.inl (if w = 0 then (S.1.2.1 : Int) else if w = 1 then S.1.1 0 else if w = 2 then zfor (zsm fun i => S.1.1 (55 + 4 * i)) 4 0 0 else if w = 3 then zfor (zsm fun i => S.1.1 (56 + 4 * i)) 4 0 0 else if w = 4 then zfor (zsm fun i => S.1.1 (47 + 2 * i)) 4 0 0 else if w = 5 then (S.2.2.2.1.1 : Int) else if w = 6 then S.1.1 3 else zfor (zspt S.1) 10 0 0), S) else (.inl (-1000001), zSf S 0)
theorem zx_count (hL : zLay L) (ho : zSOK n S) {w : Int} : zHX X L (d + 5) 118 [.inl w] S (zr_count S w) := by
  intro I hr
  obtain ⟨h1, h2, h3, h4, h5, -⟩ := hr.1
  have h6 : I 123 1 = _ := hr.2.2.2.1
  unfold zr_count
  by_cases hw : 0 ≤ w ∧ w ≤ 7
  · rw [if_pos hw]
    refine ⟨I, ?_, hr, fun a ha => rfl⟩
    refine ((zcal_go zp_X_count rfl).trans zb_X_count_0).trans ?_
    rcases (show w = 0 ∨ w = 1 ∨ w = 2 ∨ w = 3 ∨ w = 4 ∨ w = 5 ∨ w = 6 ∨ w = 7 by omega) with rfl | rfl | rfl | rfl | rfl | rfl | rfl | rfl
    · refine zb_X_count_1_0.trans ?_
      simp only [if_true, if_false, Option.bind_some, Option.bind, Option.toList, List.cons_append, List.nil_append, zite0, zite1, zite01, znn, ite_not, true_or, or_true, true_and, and_true, zn10, zn00, zk_1 hL, zr_1_0 hL, zk_2 hL, h3]
    · refine zb_X_count_1_1.trans ?_
      simp only [if_true, if_false, Option.bind_some, Option.bind, Option.toList, List.cons_append, List.nil_append, zite0, zite1, zite01, znn, ite_not, true_or, or_true, true_and, and_true, zn10, zn00, zk_1 hL, zr_1_0 hL, zk_2 hL, h1]
      try rfl
    · have hq : zcal X zP (d + 4) 51 [.inr (.inr (.inl 2)), .inl 0] (I, L) = some (some (.inl (zfor (zsm fun i => S.1.1 (55 + 4 * i)) 4 0 0)), (I, L)) := by
        refine ((zcal_go zp_Table_sumOfPlayers rfl).trans zb_Table_sumOfPlayers_0).trans ?_
        exact zx_sumPl_l hL hr (w := 0) (by omega) 4 0 0 rfl
      refine zb_X_count_1_2.trans ?_
      simp only [if_true, if_false, Option.bind_some, Option.bind, Option.toList, List.cons_append, List.nil_append, zite0, zite1, zite01, znn, ite_not, true_or, or_true, true_and, and_true, zn10, zn00, zk_1 hL, zr_1_0 hL, zk_2 hL, hq, zb_X_count_72]
      try rfl
    · have hq : zcal X zP (d + 4) 51 [.inr (.inr (.inl 2)), .inl 1] (I, L) = some (some (.inl (zfor (zsm fun i => S.1.1 (55 + 4 * i + 1)) 4 0 0)), (I, L)) := by
        refine ((zcal_go zp_Table_sumOfPlayers rfl).trans zb_Table_sumOfPlayers_0).trans ?_
        exact zx_sumPl_l hL hr (w := 1) (by omega) 4 0 0 rfl
      have e : (fun i => S.1.1 (55 + 4 * i + 1)) = fun i => S.1.1 (56 + 4 * i) := funext fun i => by rw [show 55 + 4 * i + 1 = 56 + 4 * i by omega]
      rw [e] at hq
      refine zb_X_count_1_3.trans ?_
      simp only [if_true, if_false, Option.bind_some, Option.bind, Option.toList, List.cons_append, List.nil_append, zite0, zite1, zite01, znn, ite_not, true_or, or_true, true_and, and_true, zn10, zn00, zk_1 hL, zr_1_0 hL, zk_2 hL, hq, zb_X_count_81]
      try rfl
    · have hq : zcal X zP (d + 4) 52 [.inr (.inr (.inl 2))] (I, L) = some (some (.inl (zfor (zsm fun i => S.1.1 (47 + 2 * i)) 4 0 0)), (I, L)) := by
        refine ((zcal_go zp_Table_sumOfSlips rfl).trans zb_Table_sumOfSlips_0).trans ?_
        exact zx_sumSl_l hL hr 4 0 0 rfl
      refine zb_X_count_1_4.trans ?_
      simp only [if_true, if_false, Option.bind_some, Option.bind, Option.toList, List.cons_append, List.nil_append, zite0, zite1, zite01, znn, ite_not, true_or, or_true, true_and, and_true, zn10, zn00, zk_1 hL, zr_1_0 hL, zk_2 hL, hq, zb_X_count_89]
      try rfl
    · refine zb_X_count_1_5.trans ?_
      simp only [if_true, if_false, Option.bind_some, Option.bind, Option.toList, List.cons_append, List.nil_append, zite0, zite1, zite01, znn, ite_not, true_or, or_true, true_and, and_true, zn10, zn00, zk_1 hL, zr_1_0 hL, zk_2 hL, zr_1_8 hL, zk_123 hL, h6]
      try rfl
    · refine zb_X_count_1_6.trans ?_
      simp only [if_true, if_false, Option.bind_some, Option.bind, Option.toList, List.cons_append, List.nil_append, zite0, zite1, zite01, znn, ite_not, true_or, or_true, true_and, and_true, zn10, zn00, zk_1 hL, zr_1_0 hL, zk_2 hL, h5]
      try rfl
    · have hq : zcal X zP (d + 4) 53 [.inr (.inr (.inl 2))] (I, L) = some (some (.inl (zfor (zspt S.1) 10 0 0)), (I, L)) := by
        refine ((zcal_go zp_Table_fullSpots rfl).trans zb_Table_fullSpots_0).trans ?_
        exact zx_spots_l hL ho hr 10 0 0 rfl
      refine zb_X_count_1_7.trans ?_
      simp only [if_true, if_false, Option.bind_some, Option.bind, Option.toList, List.cons_append, List.nil_append, zite0, zite1, zite01, znn, ite_not, true_or, or_true, true_and, and_true, zn10, zn00, zk_1 hL, zr_1_0 hL, zk_2 hL, hq, zb_X_count_113]
      try rfl
  · rw [if_neg hw]
    obtain ⟨I', h1, h2, h3⟩ := zX_tellc (X := X) (d := d + 3) (k := 0) (c := -1000001) hL ho (by omega) (by omega) hr
    refine ⟨I', ?_, h2, h3⟩
    refine ((zcal_go zp_X_count rfl).trans zb_X_count_0).trans ?_
    refine (zb_X_count_1_d (by omega)).trans ?_
    simp only [if_true, if_false, Option.bind_some, Option.bind, Option.toList, List.cons_append, List.nil_append, zite0, zite1, zite01, znn, ite_not, true_or, or_true, true_and, and_true, zn10, zn00, zk_1 hL, zr_1_0 hL, zk_2 hL, h1, zb_X_count_114, zb_X_count_120]
theorem zm_count (hL : zLay L) (ho : zSOK n S) {w : Int} : zHM X L (d + 2) 244 [.inl w] S (zr_count S w) := by
  intro I hr
  have h6 : I 135 6 = _ := hr.2.2.2.1
  have e0 : I 136 0 = S.1.1 0 := hr.1.1 0 (by omega)
  have e1 : I 136 1 = (S.1.2.1 : Int) := hr.1.2.1
  have e3 : I 136 3 = S.1.1 3 := hr.1.1 3 (by omega)
  unfold zr_count
  by_cases hw : 0 ≤ w ∧ w ≤ 7
  · rw [if_pos hw]
    refine ⟨I, ?_, hr, fun a ha => rfl⟩
    refine ((zcal_go zp_M_count rfl).trans zb_M_count_0).trans ?_
    rcases (show w = 0 ∨ w = 1 ∨ w = 2 ∨ w = 3 ∨ w = 4 ∨ w = 5 ∨ w = 6 ∨ w = 7 by omega) with rfl | rfl | rfl | rfl | rfl | rfl | rfl | rfl
    · refine zb_M_count_1_0.trans ?_
      simp only [if_true, if_false, Option.bind_some, Option.bind, Option.toList, List.cons_append, List.nil_append, zite0, zite1, zite01, znn, ite_not, true_or, or_true, true_and, and_true, zn10, zn00, zk_135 hL, zr_135_0 hL, z6_0 hL, z6_1 hL, z6_2 hL, z6_3 hL, z6_4 hL, e1]
    · refine zb_M_count_1_1.trans ?_
      simp only [if_true, if_false, Option.bind_some, Option.bind, Option.toList, List.cons_append, List.nil_append, zite0, zite1, zite01, znn, ite_not, true_or, or_true, true_and, and_true, zn10, zn00, zk_135 hL, zr_135_0 hL, z6_0 hL, z6_1 hL, z6_2 hL, z6_3 hL, z6_4 hL, e0]
      try rfl
    · have hq : zcal X zP (d + 1) 242 [.inr (.inr (.inl 135)), .inl 55, .inl 4] (I, L) = some (some (.inl (zfor (zsm fun i => S.1.1 (55 + 4 * i)) 4 0 0)), (I, L)) := by
        refine ((zcal_go zp_M_sumOf rfl).trans zb_M_sumOf_0).trans ?_
        exact zm_sumOf_l hL hr (f := 55) (s := 4) (by omega) (by omega) 4 0 0 rfl
      refine zb_M_count_1_2.trans ?_
      simp only [if_true, if_false, Option.bind_some, Option.bind, Option.toList, List.cons_append, List.nil_append, zite0, zite1, zite01, znn, ite_not, true_or, or_true, true_and, and_true, zn10, zn00, zk_135 hL, zr_135_0 hL, z6_0 hL, z6_1 hL, z6_2 hL, z6_3 hL, z6_4 hL, hq, zb_M_count_69]
      try rfl
    · have hq : zcal X zP (d + 1) 242 [.inr (.inr (.inl 135)), .inl 56, .inl 4] (I, L) = some (some (.inl (zfor (zsm fun i => S.1.1 (56 + 4 * i)) 4 0 0)), (I, L)) := by
        refine ((zcal_go zp_M_sumOf rfl).trans zb_M_sumOf_0).trans ?_
        exact zm_sumOf_l hL hr (f := 56) (s := 4) (by omega) (by omega) 4 0 0 rfl
      refine zb_M_count_1_3.trans ?_
      simp only [if_true, if_false, Option.bind_some, Option.bind, Option.toList, List.cons_append, List.nil_append, zite0, zite1, zite01, znn, ite_not, true_or, or_true, true_and, and_true, zn10, zn00, zk_135 hL, zr_135_0 hL, z6_0 hL, z6_1 hL, z6_2 hL, z6_3 hL, z6_4 hL, hq, zb_M_count_77]
      try rfl
    · have hq : zcal X zP (d + 1) 242 [.inr (.inr (.inl 135)), .inl 47, .inl 2] (I, L) = some (some (.inl (zfor (zsm fun i => S.1.1 (47 + 2 * i)) 4 0 0)), (I, L)) := by
        refine ((zcal_go zp_M_sumOf rfl).trans zb_M_sumOf_0).trans ?_
        exact zm_sumOf_l hL hr (f := 47) (s := 2) (by omega) (by omega) 4 0 0 rfl
      refine zb_M_count_1_4.trans ?_
      simp only [if_true, if_false, Option.bind_some, Option.bind, Option.toList, List.cons_append, List.nil_append, zite0, zite1, zite01, znn, ite_not, true_or, or_true, true_and, and_true, zn10, zn00, zk_135 hL, zr_135_0 hL, z6_0 hL, z6_1 hL, z6_2 hL, z6_3 hL, z6_4 hL, hq, zb_M_count_85]
      try rfl
    · refine zb_M_count_1_5.trans ?_
      simp only [if_true, if_false, Option.bind_some, Option.bind, Option.toList, List.cons_append, List.nil_append, zite0, zite1, zite01, znn, ite_not, true_or, or_true, true_and, and_true, zn10, zn00, zk_135 hL, zr_135_0 hL, z6_0 hL, z6_1 hL, z6_2 hL, z6_3 hL, z6_4 hL, h6]
      try rfl
    · refine zb_M_count_1_6.trans ?_
      simp only [if_true, if_false, Option.bind_some, Option.bind, Option.toList, List.cons_append, List.nil_append, zite0, zite1, zite01, znn, ite_not, true_or, or_true, true_and, and_true, zn10, zn00, zk_135 hL, zr_135_0 hL, z6_0 hL, z6_1 hL, z6_2 hL, z6_3 hL, z6_4 hL, e3]
      try rfl
    · have hq : zcal X zP (d + 1) 243 [.inr (.inr (.inl 135))] (I, L) = some (some (.inl (zfor (zspt S.1) 10 0 0)), (I, L)) := by
        refine ((zcal_go zp_M_holding rfl).trans zb_M_holding_0).trans ?_
        exact zm_holding_l hL hr 10 0 0 rfl (by unfold zint; omega)
      refine zb_M_count_1_7.trans ?_
      simp only [if_true, if_false, Option.bind_some, Option.bind, Option.toList, List.cons_append, List.nil_append, zite0, zite1, zite01, znn, ite_not, true_or, or_true, true_and, and_true, zn10, zn00, zk_135 hL, zr_135_0 hL, z6_0 hL, z6_1 hL, z6_2 hL, z6_3 hL, z6_4 hL, hq, zb_M_count_102]
      try rfl
  · rw [if_neg hw]
    obtain ⟨I', h1, h2, h3⟩ := zM_findsc (X := X) (d := d) (k := 0) (c := -1000001) (k' := 0) hL ho (by omega) (by omega) (by omega) hr
    refine ⟨I', ?_, h2, h3⟩
    refine ((zcal_go zp_M_count rfl).trans zb_M_count_0).trans ?_
    refine (zb_M_count_1_d (by omega)).trans ?_
    simp only [if_true, if_false, Option.bind_some, Option.bind, Option.toList, List.cons_append, List.nil_append, zite0, zite1, zite01, znn, ite_not, true_or, or_true, true_and, and_true, zn10, zn00, zk_135 hL, zr_135_0 hL, z6_0 hL, z6_1 hL, z6_2 hL, z6_3 hL, z6_4 hL, h1, zb_M_count_103, zb_M_count_108]
theorem zo_count (ho : zSOK n S) (hn : n < 100000) {w : Int} : zSOK (n + 1) (zr_count S w).2 := by
  unfold zr_count
  split
  · exact zSOK_up ho hn
  · exact zSOK_f ho (by omega) hn
theorem zA48 (hL : zLay L) : zA_48 X L := fun n a1 _ S ho hn => zCI (zr_count S a1) (by unfold zr_count; repeat' (first | exact ⟨_, rfl⟩ | refine zif1 ?_ ?_)) (zx_count (d := 35) hL ho) (zm_count (d := 38) hL ho) (zo_count ho hn)
/-- as -/
def zabove (k : Int) : Int := if k = 3 then 2 else if k = 4 then 1 else if k = 6 then 5 else 0
section
variable {N : Nat} {xs : Nat → Int32} {σ : zMem}
theorem zu_step {k o : Int} {a i : Nat} (ha : a < 7) (hi : i < 7) : zgo (zXs N xs) (zcal (zXs N xs) zP (d + 2)) zc_X_isUnder 4 [some (.inl k), some (.inl o), some (.inl (a : Int)), some (.inl (i : Int))] [] σ = if (a : Int) = o then some (some (.inl 1), σ) else zgo (zXs N xs) (zcal (zXs N xs) zP (d + 2)) zc_X_isUnder 4 [some (.inl k), some (.inl o), some (.inl (([-1, 0, 0, 2, 1, 0, 5] : List Int).getD a 0)), some (.inl ((i + 1 : Nat) : Int))] [] σ := by
  have hb := zq_X_isKind (X := zXs N xs) (d := d) (σ := σ) (v := (a : Int))
  rw [if_pos (by omega)] at hb
  have f1 : (1 < 4 ∧ 0 ≤ (a : Int) ∧ (a : Int) < (zXs N xs 1).1) = True := eq_true ⟨by omega, by omega, by show (a : Int) < ((7 : Nat) : Int); omega⟩
  rw [zb_X_isUnder_4, if_pos (by omega)]
  simp only [if_true, if_false, Option.bind_some, Option.bind, Option.toList, List.cons_append, List.nil_append, zite0, zite1, zite01, znn, ite_not, true_or, or_true, true_and, and_true, zn10, zn00, hb, zb_X_isUnder_14, f1, Int.toNat_natCast]
  rw [zw32n (by omega)]
  rfl
theorem zu_end {k o : Int} {i : Nat} (hi : i < 7) : zgo (zXs N xs) (zcal (zXs N xs) zP (d + 2)) zc_X_isUnder 4 [some (.inl k), some (.inl o), some (.inl (-1)), some (.inl (i : Int))] [] σ = some (some (.inl 0), σ) := by
  have hb := zq_X_isKind (X := zXs N xs) (d := d) (σ := σ) (v := -1)
  rw [if_neg (by omega)] at hb
  rw [zb_X_isUnder_4, if_pos (by omega)]
  simp only [if_true, if_false, Option.bind_some, Option.bind, Option.toList, List.cons_append, List.nil_append, zite0, zite1, zite01, znn, ite_not, true_or, or_true, true_and, and_true, zn10, zn00, hb, zb_X_isUnder_14]
theorem zq_X_isUnder {k o : Int} (hk : 0 ≤ k ∧ k < 7) : zcal (zXs N xs) zP (d + 3) 135 [.inl k, .inl o] σ = some (some (.inl (if o = 0 ∨ o = k ∨ o = zabove k then 1 else 0)), σ) := by
  refine ((zcal_go zp_X_isUnder rfl).trans zb_X_isUnder_0).trans ?_
  rcases (show k = 0 ∨ k = 1 ∨ k = 2 ∨ k = 3 ∨ k = 4 ∨ k = 5 ∨ k = 6 by omega) with rfl | rfl | rfl | rfl | rfl | rfl | rfl
  · have ea : zabove 0 = 0 := rfl
    rw [ea]
    refine (zu_step (a := 0) (i := 0) (by omega) (by omega)).trans ?_
    by_cases h0 : ((0 : Nat) : Int) = o
    · rw [if_pos h0, if_pos (by omega)]
    rw [if_neg h0]
    refine (zu_end (i := 1) (by omega)).trans ?_
    rw [if_neg (by omega)]
  · have ea : zabove 1 = 0 := rfl
    rw [ea]
    refine (zu_step (a := 1) (i := 0) (by omega) (by omega)).trans ?_
    by_cases h0 : ((1 : Nat) : Int) = o
    · rw [if_pos h0, if_pos (by omega)]
    rw [if_neg h0]
    refine (zu_step (a := 0) (i := 1) (by omega) (by omega)).trans ?_
    by_cases h1 : ((0 : Nat) : Int) = o
    · rw [if_pos h1, if_pos (by omega)]
    rw [if_neg h1]
    refine (zu_end (i := 2) (by omega)).trans ?_
    rw [if_neg (by omega)]
  · have ea : zabove 2 = 0 := rfl
    rw [ea]
    refine (zu_step (a := 2) (i := 0) (by omega) (by omega)).trans ?_
    by_cases h0 : ((2 : Nat) : Int) = o
    · rw [if_pos h0, if_pos (by omega)]
    rw [if_neg h0]
    refine (zu_step (a := 0) (i := 1) (by omega) (by omega)).trans ?_
    by_cases h1 : ((0 : Nat) : Int) = o
    · rw [if_pos h1, if_pos (by omega)]
    rw [if_neg h1]
    refine (zu_end (i := 2) (by omega)).trans ?_
    rw [if_neg (by omega)]
  · have ea : zabove 3 = 2 := rfl
    rw [ea]
    refine (zu_step (a := 3) (i := 0) (by omega) (by omega)).trans ?_
    by_cases h0 : ((3 : Nat) : Int) = o
    · rw [if_pos h0, if_pos (by omega)]
    rw [if_neg h0]
    refine (zu_step (a := 2) (i := 1) (by omega) (by omega)).trans ?_
    by_cases h1 : ((2 : Nat) : Int) = o
    · rw [if_pos h1, if_pos (by omega)]
    rw [if_neg h1]
    refine (zu_step (a := 0) (i := 2) (by omega) (by omega)).trans ?_
    by_cases h2 : ((0 : Nat) : Int) = o
    · rw [if_pos h2, if_pos (by omega)]
    rw [if_neg h2]
    refine (zu_end (i := 3) (by omega)).trans ?_
    rw [if_neg (by omega)]
  · have ea : zabove 4 = 1 := rfl
    rw [ea]
    refine (zu_step (a := 4) (i := 0) (by omega) (by omega)).trans ?_
    by_cases h0 : ((4 : Nat) : Int) = o
    · rw [if_pos h0, if_pos (by omega)]
    rw [if_neg h0]
    refine (zu_step (a := 1) (i := 1) (by omega) (by omega)).trans ?_
    by_cases h1 : ((1 : Nat) : Int) = o
    · rw [if_pos h1, if_pos (by omega)]
    rw [if_neg h1]
    refine (zu_step (a := 0) (i := 2) (by omega) (by omega)).trans ?_
    by_cases h2 : ((0 : Nat) : Int) = o
    · rw [if_pos h2, if_pos (by omega)]
    rw [if_neg h2]
    refine (zu_end (i := 3) (by omega)).trans ?_
    rw [if_neg (by omega)]
  · have ea : zabove 5 = 0 := rfl
    rw [ea]
    refine (zu_step (a := 5) (i := 0) (by omega) (by omega)).trans ?_
    by_cases h0 : ((5 : Nat) : Int) = o
    · rw [if_pos h0, if_pos (by omega)]
    rw [if_neg h0]
    refine (zu_step (a := 0) (i := 1) (by omega) (by omega)).trans ?_
    by_cases h1 : ((0 : Nat) : Int) = o
    · rw [if_pos h1, if_pos (by omega)]
    rw [if_neg h1]
    refine (zu_end (i := 2) (by omega)).trans ?_
    rw [if_neg (by omega)]
  · have ea : zabove 6 = 5 := rfl
    rw [ea]
    refine (zu_step (a := 6) (i := 0) (by omega) (by omega)).trans ?_
    by_cases h0 : ((6 : Nat) : Int) = o
    · rw [if_pos h0, if_pos (by omega)]
    rw [if_neg h0]
    refine (zu_step (a := 5) (i := 1) (by omega) (by omega)).trans ?_
    by_cases h1 : ((5 : Nat) : Int) = o
    · rw [if_pos h1, if_pos (by omega)]
    rw [if_neg h1]
    refine (zu_step (a := 0) (i := 2) (by omega) (by omega)).trans ?_
    by_cases h2 : ((0 : Nat) : Int) = o
    · rw [if_pos h2, if_pos (by omega)]
    rw [if_neg h2]
    refine (zu_end (i := 3) (by omega)).trans ?_
    rw [if_neg (by omega)]
end
def zr_as (S : zSt) (s k : Int) : zV × zSt := if (0 ≤ s ∧ s ≤ 9) ∧ (0 ≤ k ∧ k ≤ 6) then (if 0 ≤ S.1.1 (71 + s.toNat) - 1 ∧ S.1.1 (71 + s.toNat) - 1 ≤ (S.1.2.1 : Int) - 1 then (if k = 0 ∨ k = (S.1.2.2 (S.1.1 (71 + s.toNat) - 1).toNat).1 ∨ k = zabove (S.1.2.2 (S.1.1 (71 + s.toNat) - 1).toNat).1 then (.inl (S.1.1 (71 + s.toNat) - 1), S) else (.inl (-1000003), zSf S 2)) else (.inl (-1000006), zSf S 5)) else (.inl (-1000001), zSf S 0)
theorem zx_as {N : Nat} {xs : Nat → Int32} (hL : zLay L) (ho : zSOK n S) {s k : Int} : zHX (zXs N xs) L (d + 4) 109 [.inl s, .inl k] S (zr_as S s k) := by
  intro I hr
  have h14 := ho.1.2.2.2.2.1
  have hb := zq_X_within (X := zXs N xs) (d := d + 2) (σ := (I, L)) (v := s) (a := 0) (b := 9)
  have hc := zq_X_isKind (X := zXs N xs) (d := d + 1) (σ := (I, L)) (v := k)
  unfold zr_as
  by_cases hs : 0 ≤ s ∧ s ≤ 9
  · rw [if_pos hs] at hb
    by_cases hk : 0 ≤ k ∧ k ≤ 6
    · rw [if_pos hk] at hc
      rw [if_pos ⟨hs, hk⟩]
      obtain ⟨m, rfl⟩ := Int.eq_ofNat_of_zero_le hs.1
      rw [Int.toNat_natCast]
      have p0 : I 6 m = S.1.1 (71 + m) - 1 := hr.1.2.2.2.2.2.2.2.2 m (by omega)
      have hd := zq_X_isPass (X := zXs N xs) (d := d + 1) (v := S.1.1 (71 + m) - 1) hL hr.1 ho.1
      by_cases hp : 0 ≤ S.1.1 (71 + m) - 1 ∧ S.1.1 (71 + m) - 1 ≤ (S.1.2.1 : Int) - 1
      · rw [if_pos hp] at hd ⊢
        obtain ⟨q, hq⟩ := Int.eq_ofNat_of_zero_le hp.1
        rw [hq] at hd p0 hp ⊢
        rw [Int.toNat_natCast]
        obtain ⟨l3, l4⟩ := zp14 hL (show q < 14 by omega)
        have p1 : I (7 + q) 0 = (S.1.2.2 q).1 := (hr.1.2.2.2.2.2.1 q (by omega)).1
        have hu := zq_X_isUnder (N := N) (xs := xs) (d := d) (σ := (I, L)) (k := (S.1.2.2 q).1) (o := k) (ho.1.2.2.2.2.2.1 q (by omega)).1
        by_cases hz : k = 0 ∨ k = (S.1.2.2 q).1 ∨ k = zabove (S.1.2.2 q).1
        · rw [if_pos hz] at hu ⊢
          refine ⟨I, ?_, hr, fun a ha => rfl⟩
          refine ((zcal_go zp_X_as rfl).trans zb_X_as_0).trans ?_
          simp only [if_true, if_false, Option.bind_some, Option.bind, Option.toList, List.cons_append, List.nil_append, zite0, zite1, zite01, znn, ite_not, true_or, or_true, true_and, and_true, zn10, zn00, zk_1 hL, zr_1_0 hL, zk_2 hL, hb, hc, zb_X_as_7, zb_X_as_14, zb_X_as_23, zb_X_as_39, zb_X_as_49, zb_X_as_66, zb_X_as_80, zr_2_8 hL, zc6 hL (show m < 10 by omega), Int.toNat_natCast, p0, hd, zr_2_5 hL, zc3 hL (show q < 14 by omega), l3, l4, p1, hu]
        · rw [if_neg hz] at hu ⊢
          obtain ⟨I', h1, h2, h3⟩ := zX_tellc (X := zXs N xs) (d := d + 2) (k := 2) (c := -1000003) hL ho (by omega) (by omega) hr
          refine ⟨I', ?_, h2, h3⟩
          refine ((zcal_go zp_X_as rfl).trans zb_X_as_0).trans ?_
          simp only [if_true, if_false, Option.bind_some, Option.bind, Option.toList, List.cons_append, List.nil_append, zite0, zite1, zite01, znn, ite_not, true_or, or_true, true_and, and_true, zn10, zn00, zk_1 hL, zr_1_0 hL, zk_2 hL, hb, hc, zb_X_as_7, zb_X_as_14, zb_X_as_23, zb_X_as_39, zb_X_as_49, zb_X_as_66, zb_X_as_80, zr_2_8 hL, zc6 hL (show m < 10 by omega), Int.toNat_natCast, p0, hd, zr_2_5 hL, zc3 hL (show q < 14 by omega), l3, l4, p1, hu, h1]
      · rw [if_neg hp] at hd ⊢
        obtain ⟨I', h1, h2, h3⟩ := zX_tellc (X := zXs N xs) (d := d + 2) (k := 5) (c := -1000006) hL ho (by omega) (by omega) hr
        refine ⟨I', ?_, h2, h3⟩
        refine ((zcal_go zp_X_as rfl).trans zb_X_as_0).trans ?_
        simp only [if_true, if_false, Option.bind_some, Option.bind, Option.toList, List.cons_append, List.nil_append, zite0, zite1, zite01, znn, ite_not, true_or, or_true, true_and, and_true, zn10, zn00, zk_1 hL, zr_1_0 hL, zk_2 hL, hb, hc, zb_X_as_7, zb_X_as_14, zb_X_as_23, zb_X_as_39, zb_X_as_49, zb_X_as_66, zb_X_as_80, zr_2_8 hL, zc6 hL (show m < 10 by omega), Int.toNat_natCast, p0, hd, h1]
    · rw [if_neg hk] at hc
      rw [if_neg (fun h => hk h.2)]
      obtain ⟨I', h1, h2, h3⟩ := zX_tellc (X := zXs N xs) (d := d + 2) (k := 0) (c := -1000001) hL ho (by omega) (by omega) hr
      refine ⟨I', ?_, h2, h3⟩
      refine ((zcal_go zp_X_as rfl).trans zb_X_as_0).trans ?_
      simp only [if_true, if_false, Option.bind_some, Option.bind, Option.toList, List.cons_append, List.nil_append, zite0, zite1, zite01, znn, ite_not, true_or, or_true, true_and, and_true, zn10, zn00, zk_1 hL, zr_1_0 hL, zk_2 hL, hb, hc, zb_X_as_7, zb_X_as_14, zb_X_as_23, zb_X_as_39, zb_X_as_49, zb_X_as_66, zb_X_as_80, h1]
  · rw [if_neg hs] at hb
    rw [if_neg (fun h => hs h.1)]
    obtain ⟨I', h1, h2, h3⟩ := zX_tellc (X := zXs N xs) (d := d + 2) (k := 0) (c := -1000001) hL ho (by omega) (by omega) hr
    refine ⟨I', ?_, h2, h3⟩
    refine ((zcal_go zp_X_as rfl).trans zb_X_as_0).trans ?_
    simp only [if_true, if_false, Option.bind_some, Option.bind, Option.toList, List.cons_append, List.nil_append, zite0, zite1, zite01, znn, ite_not, true_or, or_true, true_and, and_true, zn10, zn00, zk_1 hL, zr_1_0 hL, zk_2 hL, hb, zb_X_as_7, zb_X_as_14, zb_X_as_23, zb_X_as_39, zb_X_as_49, zb_X_as_66, zb_X_as_80, h1]
theorem zq_M_above {σ : zMem} {k : Int} : zcal X zP (d + 1) 230 [.inl k] σ = some (some (.inl (zabove k)), σ) := by
  refine ((zcal_go zp_M_above rfl).trans zb_M_above_0).trans ?_
  unfold zabove
  repeat' split
  all_goals rfl
theorem zm_as (hL : zLay L) (ho : zSOK n S) {s k : Int} : zHM X L (d + 3) 231 [.inl s, .inl k] S (zr_as S s k) := by
  intro I hr
  have h14 := ho.1.2.2.2.2.1
  have hb := zq_M_in (X := X) (d := d + 1) (σ := (I, L)) (v := s) (a := 0) (b := 9)
  have hc := zq_M_in (X := X) (d := d + 1) (σ := (I, L)) (v := k) (a := 0) (b := 6)
  unfold zr_as
  by_cases hs : 0 ≤ s ∧ s ≤ 9
  · rw [if_pos hs] at hb
    by_cases hk : 0 ≤ k ∧ k ≤ 6
    · rw [if_pos hk] at hc
      rw [if_pos ⟨hs, hk⟩]
      obtain ⟨m, rfl⟩ := Int.eq_ofNat_of_zero_le hs.1
      rw [Int.toNat_natCast]
      have e1 : w32 (71 + (m : Int)) = ((71 + m : Nat) : Int) := by unfold w32; omega
      have b := ho.1.2.2.2.2.2.2.2.2 m (by omega)
      have p0 : w32 (I 136 (71 + m) - 1) = S.1.1 (71 + m) - 1 := by rw [hr.1.1 (71 + m) (by omega)]; unfold w32; omega
      have hd := zq_M_isPass (X := X) (d := d) (v := S.1.1 (71 + m) - 1) hL hr.1 ho.1
      by_cases hp : 0 ≤ S.1.1 (71 + m) - 1 ∧ S.1.1 (71 + m) - 1 ≤ (S.1.2.1 : Int) - 1
      · rw [if_pos hp] at hd ⊢
        obtain ⟨q, hq⟩ := Int.eq_ofNat_of_zero_le hp.1
        rw [hq] at hd p0 hp ⊢
        rw [Int.toNat_natCast]
        have hi := zq_M_its0 (X := X) (d := d + 1) hL hr.1 ho.1 (show q < S.1.2.1 by omega)
        have hu := zq_M_above (X := X) (d := d + 1) (σ := (I, L)) (k := (S.1.2.2 q).1)
        by_cases hz : k = 0 ∨ k = (S.1.2.2 q).1 ∨ k = zabove (S.1.2.2 q).1
        · rw [if_pos hz]
          refine ⟨I, ?_, hr, fun a ha => rfl⟩
          refine ((zcal_go zp_M_as rfl).trans zb_M_as_0).trans ?_
          simp only [if_true, if_false, Option.bind_some, Option.bind, Option.toList, List.cons_append, List.nil_append, zite0, zite1, zite01, znn, ite_not, true_or, or_true, true_and, and_true, zn10, zn00, zk_135 hL, zr_135_0 hL, z6_0 hL, z6_1 hL, z6_2 hL, z6_3 hL, z6_4 hL, hb, hc, zb_M_as_9, zb_M_as_21, zb_M_as_29, zb_M_as_47, zb_M_as_55, zb_M_as_62, zb_M_as_80, zb_M_as_92, e1, zd136 hL (show 0 ≤ ((71 + m : Nat) : Int) ∧ ((71 + m : Nat) : Int) < 96 by omega), Int.toNat_natCast, p0, hd, hi, hu]
          by_cases z0 : k = 0
          · rw [if_pos z0]
          · rw [if_neg z0]
            by_cases z1 : k = (S.1.2.2 q).1
            · rw [if_pos z1]
            · rw [if_neg z1, if_pos (by omega)]
        · rw [if_neg hz]
          obtain ⟨I', h1, h2, h3⟩ := zM_findsc (X := X) (d := d + 1) (k := 2) (c := -1000003) (k' := 2) hL ho (by omega) (by omega) (by omega) hr
          refine ⟨I', ?_, h2, h3⟩
          refine ((zcal_go zp_M_as rfl).trans zb_M_as_0).trans ?_
          simp only [if_true, if_false, Option.bind_some, Option.bind, Option.toList, List.cons_append, List.nil_append, zite0, zite1, zite01, znn, ite_not, true_or, or_true, true_and, and_true, zn10, zn00, zk_135 hL, zr_135_0 hL, z6_0 hL, z6_1 hL, z6_2 hL, z6_3 hL, z6_4 hL, hb, hc, zb_M_as_9, zb_M_as_21, zb_M_as_29, zb_M_as_47, zb_M_as_55, zb_M_as_62, zb_M_as_80, zb_M_as_92, e1, zd136 hL (show 0 ≤ ((71 + m : Nat) : Int) ∧ ((71 + m : Nat) : Int) < 96 by omega), Int.toNat_natCast, p0, hd, hi, hu, h1]
          rw [if_neg (fun h => hz (Or.inl h)), if_neg (fun h => hz (Or.inr (Or.inl h))), if_neg (fun h => hz (Or.inr (Or.inr h)))]
      · rw [if_neg hp] at hd ⊢
        obtain ⟨I', h1, h2, h3⟩ := zM_findsc (X := X) (d := d + 1) (k := 5) (c := -1000006) (k' := 5) hL ho (by omega) (by omega) (by omega) hr
        refine ⟨I', ?_, h2, h3⟩
        refine ((zcal_go zp_M_as rfl).trans zb_M_as_0).trans ?_
        simp only [if_true, if_false, Option.bind_some, Option.bind, Option.toList, List.cons_append, List.nil_append, zite0, zite1, zite01, znn, ite_not, true_or, or_true, true_and, and_true, zn10, zn00, zk_135 hL, zr_135_0 hL, z6_0 hL, z6_1 hL, z6_2 hL, z6_3 hL, z6_4 hL, hb, hc, zb_M_as_9, zb_M_as_21, zb_M_as_29, zb_M_as_47, zb_M_as_55, zb_M_as_62, zb_M_as_80, zb_M_as_92, e1, zd136 hL (show 0 ≤ ((71 + m : Nat) : Int) ∧ ((71 + m : Nat) : Int) < 96 by omega), Int.toNat_natCast, p0, hd, h1]
    · rw [if_neg hk] at hc
      rw [if_neg (fun h => hk h.2)]
      obtain ⟨I', h1, h2, h3⟩ := zM_findsc (X := X) (d := d + 1) (k := 0) (c := -1000001) (k' := 0) hL ho (by omega) (by omega) (by omega) hr
      refine ⟨I', ?_, h2, h3⟩
      refine ((zcal_go zp_M_as rfl).trans zb_M_as_0).trans ?_
      simp only [if_true, if_false, Option.bind_some, Option.bind, Option.toList, List.cons_append, List.nil_append, zite0, zite1, zite01, znn, ite_not, true_or, or_true, true_and, and_true, zn10, zn00, zk_135 hL, zr_135_0 hL, z6_0 hL, z6_1 hL, z6_2 hL, z6_3 hL, z6_4 hL, hb, hc, zb_M_as_9, zb_M_as_21, zb_M_as_29, zb_M_as_47, zb_M_as_55, zb_M_as_62, zb_M_as_80, zb_M_as_92, h1]
  · rw [if_neg hs] at hb
    rw [if_neg (fun h => hs h.1)]
    obtain ⟨I', h1, h2, h3⟩ := zM_findsc (X := X) (d := d + 1) (k := 0) (c := -1000001) (k' := 0) hL ho (by omega) (by omega) (by omega) hr
    refine ⟨I', ?_, h2, h3⟩
    refine ((zcal_go zp_M_as rfl).trans zb_M_as_0).trans ?_
    simp only [if_true, if_false, Option.bind_some, Option.bind, Option.toList, List.cons_append, List.nil_append, zite0, zite1, zite01, znn, ite_not, true_or, or_true, true_and, and_true, zn10, zn00, zk_135 hL, zr_135_0 hL, z6_0 hL, z6_1 hL, z6_2 hL, z6_3 hL, z6_4 hL, hb, zb_M_as_9, zb_M_as_21, zb_M_as_29, zb_M_as_47, zb_M_as_55, zb_M_as_62, zb_M_as_80, zb_M_as_92, h1]
theorem zo_as (ho : zSOK n S) (hn : n < 100000) {s k : Int} : zSOK (n + 1) (zr_as S s k).2 := by
  unfold zr_as
  repeat' split
  all_goals first
    | exact zSOK_up ho hn
    | exact zSOK_f ho (by omega) hn
theorem zA39 {N : Nat} {xs : Nat → Int32} (hL : zLay L) : zA_39 (zXs N xs) L := fun n a1 a2 _ _ S ho hn => zCI (zr_as S a1 a2) (by unfold zr_as; repeat' (first | exact ⟨_, rfl⟩ | refine zif1 ?_ ?_)) (zx_as (d := 36) hL ho) (zm_as (d := 37) hL ho) (zo_as ho hn)
end
