/-! CONTRACTS OF CALLS, closed: moves, of. -/
theorem zor_int {x y : Int} : zint (zor x y) := by
  unfold zor
  have a1 := Int32.le_toInt (Int32.ofInt x ||| Int32.ofInt y)
  have a2 := Int32.toInt_lt (Int32.ofInt x ||| Int32.ofInt y)
  exact ⟨by omega, by omega⟩
theorem zor_0 {x : Int} (h : zint x) : zor x 0 = x := by
  unfold zor
  rw [show Int32.ofInt 0 = 0 from rfl, Int32.or_zero]
  exact Int32.toInt_ofInt_of_le (by have := h.1; omega) (by have := h.2; omega)
section
variable {X : zX} {d n : Nat} {L : zLt} {S : zSt}
def zmvf (T : zTb) (i : Nat) (q : Int × Int) : Int × Int := (if zpea (T.2.2 i).1 (T.2.2 i).2.1 (T.2.2 i).2.2 q.2 = q.2 then q.1 else zor q.1 (zshl 1 (i : Int)), zpea (T.2.2 i).1 (T.2.2 i).2.1 (T.2.2 i).2.2 q.2)
def zr_moves (S : zSt) : zV × zSt := (.inl (zfor (zmvf S.1) S.1.2.1 0 (0, S.1.1 2)).1, S)
theorem zx_moves_l {I : Nat → Nat → Int} (hL : zLay L) (ho : zSOK n S) (hr : zRX I S) : ∀ (m i : Nat) (s a : Int) (o : Option zV), i + m = S.1.2.1 → zgo X (zcal X zP (d + 4)) zc_X_moves 12 [some (.inr (.inr (.inl 1))), some (.inl s), some (.inl a), some (.inl (i : Int)), o] [] (I, L) = some (some (.inl (zfor (zmvf S.1) m i (s, a)).1), (I, L)) := by
  have h14 := ho.1.2.2.2.2.1
  have e2 : I 2 2 = (S.1.2.1 : Int) := hr.1.2.2.1
  intro m
  induction m with
  | zero =>
    intro i s a o hi
    rw [zb_X_moves_12]
    simp only [if_true, if_false, Option.bind_some, Option.bind, Option.toList, List.cons_append, List.nil_append, zite0, zite1, zite01, znn, ite_not, true_or, or_true, true_and, and_true, zk_1 hL, zr_1_0 hL, zk_2 hL, e2]
    rw [if_neg (by omega)]
    rfl
  | succ m ih =>
    intro i s a o hi
    obtain ⟨l3, l4⟩ := zp14 hL (show i < 14 by omega)
    obtain ⟨p1, p2, p3⟩ := hr.1.2.2.2.2.2.1 i (by omega)
    obtain ⟨-, -, -, o7⟩ := ho.1.2.2.2.2.2.1 i (by omega)
    have hp := zq_Pass_peaBehind (X := X) (d := d) (σ := (I, L)) (p := 7 + i) (v := a) l4 (by show I (2 + 5 + i) 1 ≠ I (2 + 5 + i) 2; rw [p2, p3]; exact o7)
    have p1 : I (7 + i) 0 = _ := p1
    have p2 : I (7 + i) 1 = _ := p2
    have p3 : I (7 + i) 2 = _ := p3
    rw [zb_X_moves_12]
    simp only [if_true, if_false, Option.bind_some, Option.bind, Option.toList, List.cons_append, List.nil_append, zite0, zite1, zite01, znn, ite_not, true_or, or_true, true_and, and_true, zk_1 hL, zr_1_0 hL, zk_2 hL, e2, zr_2_5 hL, zc3 hL (show i < 14 by omega), Int.toNat_natCast, l3, l4, hp, p1, p2, p3, zb_X_moves_36]
    rw [if_pos (by omega), zw32n (by omega), ih _ _ _ _ (by omega), ih _ _ _ _ (by omega)]
    show _ = some (some (Sum.inl (zfor (zmvf S.1) m (i + 1) (zmvf S.1 i (s, a))).1), (I, L))
    unfold zmvf
    split <;> rfl
theorem zx_moves (hL : zLay L) (ho : zSOK n S) : zHX X L (d + 5) 78 [] S (zr_moves S) := by
  intro I hr
  refine ⟨I, ?_, hr, fun a ha => rfl⟩
  have e : I 2 1 = S.1.1 2 := hr.1.2.1
  refine ((zcal_go zp_X_moves rfl).trans zb_X_moves_0).trans ?_
  simp only [if_true, if_false, Option.bind_some, Option.bind, Option.toList, List.cons_append, List.nil_append, zite0, zite1, zite01, znn, ite_not, true_or, or_true, true_and, and_true, zk_1 hL, zr_1_0 hL, zk_2 hL, e]
  exact zx_moves_l hL ho hr S.1.2.1 0 0 _ _ (by omega)
theorem zm_moves_l {I : Nat → Nat → Int} (hL : zLay L) (ho : zSOK n S) (hr : zRM I S) : ∀ (m i : Nat) (s a : Int) (o : Option zV), i + m = S.1.2.1 → zint s → -1 ≤ a → zgo X (zcal X zP (d + 3)) zc_M_moves 11 [some (.inr (.inr (.inl 135))), some (.inl s), some (.inl a), some (.inl (i : Int)), o] [] (I, L) = some (some (.inl (zfor (zmvf S.1) m i (s, a)).1), (I, L)) := by
  have h14 := ho.1.2.2.2.2.1
  have e2 : I 136 1 = (S.1.2.1 : Int) := hr.1.2.1
  intro m
  induction m with
  | zero =>
    intro i s a o hi hs ha
    rw [zb_M_moves_11]
    simp only [if_true, if_false, Option.bind_some, Option.bind, Option.toList, List.cons_append, List.nil_append, zite0, zite1, zite01, znn, ite_not, true_or, or_true, true_and, and_true, zk_135 hL, zr_135_0 hL, z6_1 hL, e2]
    rw [if_neg (by omega)]
    rfl
  | succ m ih =>
    intro i s a o hi hs ha
    obtain ⟨-, q2, q3, q4⟩ := ho.1.2.2.2.2.2.1 i (by omega)
    have hp := zq_M_peaBy (X := X) (d := d) (σ := (I, L)) (k := (S.1.2.2 i).1) (v := a) q4 q2.1 q3.1 ha
    have hg := zpea_ge (k := (S.1.2.2 i).1) (v := a) q2.1 q3.1 ha
    rw [zb_M_moves_11]
    simp only [if_true, if_false, Option.bind_some, Option.bind, Option.toList, List.cons_append, List.nil_append, zite0, zite1, zite01, znn, ite_not, true_or, or_true, true_and, and_true, zk_135 hL, zr_135_0 hL, z6_1 hL, e2, zq_M_its0 hL hr.1 ho.1 (show i < S.1.2.1 by omega), zb_M_moves_27, zq_M_its1 hL hr.1 ho.1 (show i < S.1.2.1 by omega), zb_M_moves_33, zq_M_its2 hL hr.1 ho.1 (show i < S.1.2.1 by omega), zb_M_moves_39, hp, zb_M_moves_43]
    rw [if_pos (by omega), zw32n (by omega), zor_0 hs, ih _ _ _ _ (by omega) hs hg, ih _ _ _ _ (by omega) zor_int hg]
    show _ = some (some (Sum.inl (zfor (zmvf S.1) m (i + 1) (zmvf S.1 i (s, a))).1), (I, L))
    unfold zmvf
    split <;> rfl
theorem zm_moves (hL : zLay L) (ho : zSOK n S) : zHM X L (d + 4) 162 [] S (zr_moves S) := by
  intro I hr
  refine ⟨I, ?_, hr, fun a ha => rfl⟩
  have e : I 136 2 = S.1.1 2 := hr.1.1 2 (by omega)
  refine ((zcal_go zp_M_moves rfl).trans zb_M_moves_0).trans ?_
  simp only [if_true, if_false, Option.bind_some, Option.bind, Option.toList, List.cons_append, List.nil_append, zite0, zite1, zite01, znn, ite_not, true_or, or_true, true_and, and_true, zk_135 hL, zr_135_0 hL, z6_2 hL, e]
  exact zm_moves_l hL ho hr S.1.2.1 0 0 _ _ (by omega) (by unfold zint; omega) ho.1.2.1.1
theorem zA8 (hL : zLay L) : zA_8 X L := fun n S ho hn => zCI (zr_moves S) ⟨_, rfl⟩ (zx_moves (d := 35) hL ho) (zm_moves (d := 36) hL ho) (zSOK_up ho hn)
theorem zq_M_seen {I : Nat → Nat → Int} {T : zTb} (hL : zLay L) (hr : zTM I 136 T) (ho : zTOK n T) {i : Nat} (hi : i < T.2.1) : zcal X zP (d + 2) 151 [.inr (.inr (.inl 135)), .inl (i : Int)] (I, L) = some (some (.inl (zlooks (T.2.2 i).1 (T.2.2 i).2.1 (T.2.2 i).2.2)), (I, L)) := by
  obtain ⟨-, -, -, q4⟩ := ho.2.2.2.2.2.1 i hi
  refine ((zcal_go zp_M_seen rfl).trans zb_M_seen_0).trans ?_
  simp only [if_true, if_false, Option.bind_some, Option.bind, Option.toList, List.cons_append, List.nil_append, zite0, zite1, zite01, znn, ite_not, true_or, or_true, true_and, and_true, zk_135 hL, zq_M_its0 hL hr ho hi, zb_M_seen_6, zq_M_its1 hL hr ho hi, zb_M_seen_16, zq_M_its2 hL hr ho hi, zb_M_seen_22, zq_M_third q4, zb_M_seen_25, zb_M_seen_34, zlooks]
  split <;> rfl
end
