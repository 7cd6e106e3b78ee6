/-! WHAT THE METHODS ANSWER: the questions that look at a table. -/
section
variable {X : zX} {d : Nat} {I : Nat → Nat → Int} {L : zLt} {n : Nat} {T : zTb}
theorem zq_X_tell (hL : zLay L) {k : Nat} (hk : k < 7) : zcal X zP (d + 1) 120 [.inr (.inr (.inl 1)), .inl (-1000001 - (k : Int))] (I, L) = some (some (.inl (-1000001 - (k : Int))), zw (I, L) 126 k (w32 (I 126 k + 1))) := by
  refine ((zcal_go zp_X_tell rfl).trans zb_X_tell_0).trans ?_
  have e : w32 ((-1000001) - (-1000001 - (k : Int))) = (k : Int) := by unfold w32; omega
  simp only [e, zk_1 hL, zr_1_10 hL, zk_126 hL, Int.toNat_natCast, if_true, true_and]
  rw [if_pos (by omega), if_pos (by omega)]
theorem zq_X_isPlace (hL : zLay L) (hr : zTC I 2 T) (ho : zTOK n T) {v : Int} : zcal X zP (d + 2) 124 [.inr (.inr (.inl 1)), .inl v] (I, L) = some (some (.inl (if 0 ≤ v ∧ v ≤ T.1 0 - 1 then 1 else 0)), (I, L)) := by
  refine ((zcal_go zp_X_isPlace rfl).trans zb_X_isPlace_0).trans ?_
  have e : w32 (I 2 0 - 1) = T.1 0 - 1 := by rw [hr.1]; have := ho.1; unfold w32; omega
  simp only [if_true, if_false, Option.bind_some, Option.bind, Option.toList, List.cons_append, List.nil_append, zite0, zite1, zite01, znn, ite_not, true_or, or_true, true_and, and_true, zk_1 hL, zr_1_0 hL, zk_2 hL, zq_X_within, zb_X_isPlace_14, e]
theorem zq_X_isPlaceOrHand (hL : zLay L) (hr : zTC I 2 T) (ho : zTOK n T) {v : Int} : zcal X zP (d + 3) 125 [.inr (.inr (.inl 1)), .inl v] (I, L) = some (some (.inl (if -1 ≤ v ∧ v ≤ T.1 0 - 1 then 1 else 0)), (I, L)) := by
  refine ((zcal_go zp_X_isPlaceOrHand rfl).trans zb_X_isPlaceOrHand_0).trans ?_
  have := ho.1
  simp only [if_true, if_false, Option.bind_some, Option.bind, Option.toList, List.cons_append, List.nil_append, zite0, zite1, zite01, znn, ite_not, true_or, or_true, true_and, and_true, zk_1 hL, zq_X_isPlace hL hr ho, zb_X_isPlaceOrHand_10]
  by_cases h : v = -1
  · rw [if_pos h, if_pos (by omega)]
  · rw [if_neg h]
    by_cases h2 : 0 ≤ v ∧ v ≤ T.1 0 - 1
    · rw [if_pos h2, if_pos (by omega)]
    · rw [if_neg h2, if_neg (by omega)]
theorem zq_X_isPass (hL : zLay L) (hr : zTC I 2 T) (ho : zTOK n T) {v : Int} : zcal X zP (d + 2) 126 [.inr (.inr (.inl 1)), .inl v] (I, L) = some (some (.inl (if 0 ≤ v ∧ v ≤ (T.2.1 : Int) - 1 then 1 else 0)), (I, L)) := by
  refine ((zcal_go zp_X_isPass rfl).trans zb_X_isPass_0).trans ?_
  have e : w32 (I 2 2 - 1) = (T.2.1 : Int) - 1 := by rw [hr.2.2.1]; have := ho.2.2.2.2.1; unfold w32; omega
  simp only [if_true, if_false, Option.bind_some, Option.bind, Option.toList, List.cons_append, List.nil_append, zite0, zite1, zite01, znn, ite_not, true_or, or_true, true_and, and_true, zk_1 hL, zr_1_0 hL, zk_2 hL, zq_X_within, zb_X_isPass_14, e]
theorem zq_X_isBehind (hL : zLay L) (hr : zTC I 2 T) (ho : zTOK n T) {v : Int} : zcal X zP (d + 2) 127 [.inr (.inr (.inl 1)), .inl v] (I, L) = some (some (.inl (if 0 ≤ v ∧ v ≤ (T.2.1 : Int) then 1 else 0)), (I, L)) := by
  refine ((zcal_go zp_X_isBehind rfl).trans zb_X_isBehind_0).trans ?_
  have e : I 2 2 = (T.2.1 : Int) := hr.2.2.1
  simp only [if_true, if_false, Option.bind_some, Option.bind, Option.toList, List.cons_append, List.nil_append, zite0, zite1, zite01, znn, ite_not, true_or, or_true, true_and, and_true, zk_1 hL, zr_1_0 hL, zk_2 hL, zq_X_within, zb_X_isBehind_12, e]
theorem zq_M_finds (hL : zLay L) {k : Nat} (hk : k < 7) : zcal X zP (d + 1) 140 [.inr (.inr (.inl 135)), .inl (k : Int)] (I, L) = some (some (.inl (-1000001 - (k : Int))), zw (I, L) 139 k (w32 (I 139 k + 1))) := by
  refine ((zcal_go zp_M_finds rfl).trans zb_M_finds_0).trans ?_
  have e : w32 ((-1000001) - (k : Int)) = -1000001 - (k : Int) := by unfold w32; omega
  simp only [e, zk_135 hL, zr_135_4 hL, zk_139 hL, Int.toNat_natCast, if_true, true_and]
  rw [if_pos (by omega), if_pos (by omega)]
theorem zq_M_isPlace (hL : zLay L) (hr : zTM I 136 T) (ho : zTOK n T) {v : Int} : zcal X zP (d + 2) 143 [.inr (.inr (.inl 135)), .inl v] (I, L) = some (some (.inl (if 0 ≤ v ∧ v ≤ T.1 0 - 1 then 1 else 0)), (I, L)) := by
  refine ((zcal_go zp_M_isPlace rfl).trans zb_M_isPlace_0).trans ?_
  have e : w32 (I 136 0 - 1) = T.1 0 - 1 := by rw [hr.1 0 (by omega)]; have := ho.1; unfold w32; omega
  simp only [zk_135 hL, zr_135_0 hL, zk_136 hL, if_true, true_and]
  rw [if_pos (by omega)]
  simp only [if_true, if_false, Option.bind_some, Option.bind, Option.toList, List.cons_append, List.nil_append, zite0, zite1, zite01, znn, ite_not, true_or, or_true, true_and, and_true, zq_M_in, zb_M_isPlace_15, e]
theorem zq_M_isPass (hL : zLay L) (hr : zTM I 136 T) (ho : zTOK n T) {v : Int} : zcal X zP (d + 2) 144 [.inr (.inr (.inl 135)), .inl v] (I, L) = some (some (.inl (if 0 ≤ v ∧ v ≤ (T.2.1 : Int) - 1 then 1 else 0)), (I, L)) := by
  refine ((zcal_go zp_M_isPass rfl).trans zb_M_isPass_0).trans ?_
  have e : w32 (I 136 1 - 1) = (T.2.1 : Int) - 1 := by rw [hr.2.1]; have := ho.2.2.2.2.1; unfold w32; omega
  simp only [zk_135 hL, zr_135_0 hL, zk_136 hL, if_true, true_and]
  rw [if_pos (by omega)]
  simp only [if_true, if_false, Option.bind_some, Option.bind, Option.toList, List.cons_append, List.nil_append, zite0, zite1, zite01, znn, ite_not, true_or, or_true, true_and, and_true, zq_M_in, zb_M_isPass_15, e]
theorem zq_M_isWhere (hL : zLay L) (hr : zTM I 136 T) (ho : zTOK n T) {v : Int} : zcal X zP (d + 2) 189 [.inr (.inr (.inl 135)), .inl v] (I, L) = some (some (.inl (if -1 ≤ v ∧ v ≤ T.1 0 - 1 then 1 else 0)), (I, L)) := by
  refine ((zcal_go zp_M_isWhere rfl).trans zb_M_isWhere_0).trans ?_
  have e : w32 (I 136 0 - 1) = T.1 0 - 1 := by rw [hr.1 0 (by omega)]; have := ho.1; unfold w32; omega
  simp only [zk_135 hL, zr_135_0 hL, zk_136 hL, if_true, true_and]
  rw [if_pos (by omega)]
  simp only [if_true, if_false, Option.bind_some, Option.bind, Option.toList, List.cons_append, List.nil_append, zite0, zite1, zite01, znn, ite_not, true_or, or_true, true_and, and_true, zq_M_in, zb_M_isWhere_17, e]
/-- a figure of a pass -/
def zfig (q : Int × (Int × Int)) (w : Nat) : Int := if w = 0 then q.1 else if w = 1 then q.2.1 else q.2.2
theorem zq_M_its (hL : zLay L) (hr : zTM I 136 T) (ho : zTOK n T) {i w : Nat} (hi : i < T.2.1) (hw : w < 3) : zcal X zP (d + 1) 146 [.inr (.inr (.inl 135)), .inl (i : Int), .inl (w : Int)] (I, L) = some (some (.inl (zfig (T.2.2 i) w)), (I, L)) := by
  refine ((zcal_go zp_M_its rfl).trans zb_M_its_0).trans ?_
  have h14 := ho.2.2.2.2.1
  have e : w32 ((w32 (5 + (w32 (3 * (i : Int))))) + (w : Int)) = ((5 + 3 * i + w : Nat) : Int) := by unfold w32; omega
  simp only [e, zk_135 hL, zr_135_0 hL, zk_136 hL, Int.toNat_natCast, if_true, true_and]
  rw [if_pos (by omega)]
  obtain ⟨p1, p2, p3⟩ := hr.2.2 i hi
  rcases (show w = 0 ∨ w = 1 ∨ w = 2 by omega) with rfl | rfl | rfl
  · exact congrArg (fun z => some (some (Sum.inl z), (I, L))) p1
  · rw [show 5 + 3 * i + 1 = 6 + 3 * i by omega]
    exact congrArg (fun z => some (some (Sum.inl z), (I, L))) p2
  · rw [show 5 + 3 * i + 2 = 7 + 3 * i by omega]
    exact congrArg (fun z => some (some (Sum.inl z), (I, L))) p3
theorem zq_M_its0 (hL : zLay L) (hr : zTM I 136 T) (ho : zTOK n T) {i : Nat} (hi : i < T.2.1) : zcal X zP (d + 1) 146 [.inr (.inr (.inl 135)), .inl (i : Int), .inl 0] (I, L) = some (some (.inl (T.2.2 i).1), (I, L)) := zq_M_its hL hr ho hi (w := 0) (by omega)
theorem zq_M_its1 (hL : zLay L) (hr : zTM I 136 T) (ho : zTOK n T) {i : Nat} (hi : i < T.2.1) : zcal X zP (d + 1) 146 [.inr (.inr (.inl 135)), .inl (i : Int), .inl 1] (I, L) = some (some (.inl (T.2.2 i).2.1), (I, L)) := zq_M_its hL hr ho hi (w := 1) (by omega)
theorem zq_M_its2 (hL : zLay L) (hr : zTM I 136 T) (ho : zTOK n T) {i : Nat} (hi : i < T.2.1) : zcal X zP (d + 1) 146 [.inr (.inr (.inl 135)), .inl (i : Int), .inl 2] (I, L) = some (some (.inl (T.2.2 i).2.2), (I, L)) := zq_M_its hL hr ho hi (w := 2) (by omega)
theorem zpea_ge {k a b v : Int} (ha : 0 ≤ a) (hb : 0 ≤ b) (hv : -1 ≤ v) : -1 ≤ zpea k a b v := by
  unfold zpea
  split
  · omega
  · split
    · omega
    · by_cases h : v = -1
      · rw [h, zthing_hand ha hb]; omega
      · have := zthing_ge (k := k) (a := a) (b := b) (v := v) ha hb (by omega); omega
theorem zq_M_peaBehind_l (hL : zLay L) (hr : zTM I 136 T) (ho : zTOK n T) {k : Nat} (hk : k ≤ T.2.1) : ∀ (m i : Nat) (a : Int), i + m = k → -1 ≤ a → zgo X (zcal X zP (d + 3)) zc_M_peaBehind 9 [some (.inr (.inr (.inl 135))), some (.inl (k : Int)), some (.inl a), some (.inl (i : Int))] [] (I, L) = some (some (.inl (zfor (fun i a => zpea (T.2.2 i).1 (T.2.2 i).2.1 (T.2.2 i).2.2 a) m i a)), (I, L)) := by
  have h14 := ho.2.2.2.2.1
  intro m
  induction m with
  | zero =>
    intro i a hi ha
    rw [zb_M_peaBehind_9, if_neg (by omega)]
    rfl
  | succ m ih =>
    intro i a hi ha
    obtain ⟨-, q2, q3, q4⟩ := ho.2.2.2.2.2.1 i (by omega)
    rw [zb_M_peaBehind_9, if_pos (by omega)]
    simp only [if_true, if_false, Option.bind_some, Option.bind, Option.toList, List.cons_append, List.nil_append, zite0, zite1, zite01, znn, ite_not, true_or, or_true, true_and, and_true, zk_135 hL, zq_M_its0 hL hr ho (show i < T.2.1 by omega), zb_M_peaBehind_20, zq_M_its1 hL hr ho (show i < T.2.1 by omega), zb_M_peaBehind_26, zq_M_its2 hL hr ho (show i < T.2.1 by omega), zb_M_peaBehind_32]
    rw [zq_M_peaBy q4 q2.1 q3.1 ha]
    simp only [if_true, if_false, Option.bind_some, Option.bind, Option.toList, List.cons_append, List.nil_append, zite0, zite1, zite01, znn, ite_not, true_or, or_true, true_and, and_true, zb_M_peaBehind_36]
    rw [zw32n (by omega), ih _ _ (by omega) (zpea_ge q2.1 q3.1 ha)]
    rfl
theorem zq_M_peaBehind (hL : zLay L) (hr : zTM I 136 T) (ho : zTOK n T) {k : Nat} (hk : k ≤ T.2.1) : zcal X zP (d + 4) 159 [.inr (.inr (.inl 135)), .inl (k : Int)] (I, L) = some (some (.inl (zpeaAt T k)), (I, L)) := by
  refine ((zcal_go zp_M_peaBehind rfl).trans zb_M_peaBehind_0).trans ?_
  have e : (I, L).1 136 2 = T.1 2 := hr.1 2 (by omega)
  simp only [zk_135 hL, zr_135_0 hL, zk_136 hL, if_true, true_and]
  rw [if_pos (by omega)]
  have e : I 136 2 = T.1 2 := hr.1 2 (by omega)
  rw [e]
  exact zq_M_peaBehind_l hL hr ho hk k 0 _ (by omega) ho.2.1.1
end
