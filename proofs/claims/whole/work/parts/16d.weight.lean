/-! CONTRACTS OF CALLS: weight, guess, right. -/
theorem zthing_in {c k a b v : Int} (hc : 3 ≤ c) (ha : 0 ≤ a ∧ a < c) (hb : 0 ≤ b ∧ b < c) (hv : 0 ≤ v ∧ v < c) : 0 ≤ zthing k a b v ∧ zthing k a b v < c := by
  have := zthird_ge (a := a) (b := b)
  unfold zthing zswap
  repeat' split
  all_goals omega
theorem zpea_in {c k a b v : Int} (hc : 3 ≤ c) (ha : 0 ≤ a ∧ a < c) (hb : 0 ≤ b ∧ b < c) (hv : -1 ≤ v ∧ v < c) : -1 ≤ zpea k a b v ∧ zpea k a b v < c := by
  unfold zpea
  split
  · omega
  · split
    · omega
    · by_cases h : v = -1
      · rw [h, zthing_hand ha.1 hb.1]; omega
      · have := zthing_in (k := k) hc ha hb (show 0 ≤ v ∧ v < c by omega); omega
theorem zpeaAt_in {n : Nat} {T : zTb} (ho : zTOK n T) {k : Nat} (hk : k ≤ T.2.1) : -1 ≤ zpeaAt T k ∧ zpeaAt T k < T.1 0 := by
  have key : ∀ (m i : Nat) (a : Int), i + m ≤ T.2.1 → (-1 ≤ a ∧ a < T.1 0) → -1 ≤ zfor (fun i a => zpea (T.2.2 i).1 (T.2.2 i).2.1 (T.2.2 i).2.2 a) m i a ∧ zfor (fun i a => zpea (T.2.2 i).1 (T.2.2 i).2.1 (T.2.2 i).2.2 a) m i a < T.1 0 := by
    intro m
    induction m with
    | zero => intro i a _ h; exact h
    | succ m ih =>
      intro i a hi h
      obtain ⟨-, q2, q3, -⟩ := ho.2.2.2.2.2.1 i (by omega)
      exact ih _ _ (by omega) (zpea_in ho.1.1 q2 q3 h)
  exact key k 0 _ (by omega) ho.2.1
theorem zRX_scr {I I' : Nat → Nat → Int} {n : Nat} {S : zSt} (ho : zSOK n S) (hr : ∀ a, (a < 56 ∨ 123 ≤ a) → I' a = I a) (h : zRX I S) : zRX I' S := by
  obtain ⟨h1, h2, h3, h4, h5, h6, h7⟩ := h
  refine ⟨zTC_row ho.1.2.2.2.2.1 (fun a _ ha => hr a (by omega)) h1, ?_, fun e => zTC_row (ho.2.2.1 e).2.2.2.2.1 (fun a _ ha => hr a (by omega)) (h3 e), ?_, ?_, ?_, ?_⟩
  · rw [hr 1 (by omega)]; exact h2
  · rw [hr 123 (by omega)]; exact h4
  · rw [hr 124 (by omega)]; exact h5
  · intro s hs
    rw [hr (127 + 2 * s) (by omega), hr (128 + 2 * s) (by omega)]; exact h6 s hs
  · rw [hr 126 (by omega)]; exact h7
theorem zRM_scr {I I' : Nat → Nat → Int} {S : zSt} (hr : ∀ a, a ≠ 137 → (a < 141 ∨ 147 ≤ a) → I' a = I a) (h : zRM I S) : zRM I' S := by
  obtain ⟨h1, h2, h3, h4, h5, h6, h7⟩ := h
  refine ⟨zTM_row (hr 136 (by omega) (by omega)) h1, ?_, fun e => zTM_row (hr 138 (by omega) (by omega)) (h3 e), ?_, ?_, ?_, ?_⟩
  · rw [hr 135 (by omega) (by omega)]; exact h2
  · rw [hr 135 (by omega) (by omega)]; exact h4
  · rw [hr 140 (by omega) (by omega)]; exact h5
  · rw [hr 147 (by omega) (by omega), hr 148 (by omega) (by omega), hr 149 (by omega) (by omega)]; exact h6
  · rw [hr 139 (by omega) (by omega)]; exact h7
theorem zCL {X : zX} {L : zLt} {n mx mm : Nat} {args : List zV} {S : zSt} (q : zV × zSt) (hq : ∃ z, q.1 = .inr (.inl z)) (hx : zHX X L 40 mx args S q) (hm : zHM X L 40 mm args S q) (ho : zSOK (n + 1) q.2) : ∃ z S', zHX X L 40 mx args S (.inr (.inl z), S') ∧ zHM X L 40 mm args S (.inr (.inl z), S') ∧ zSOK (n + 1) S' := by
  obtain ⟨q1, q2⟩ := q
  obtain ⟨z, hz⟩ := hq
  have hz : q1 = .inr (.inl z) := hz
  subst hz
  exact ⟨z, q2, hx, hm, ho⟩
theorem zif3 {c : Prop} [Decidable c] {a b : zV × zSt} (h1 : ∃ z, a.1 = .inr (.inl z)) (h2 : ∃ z, b.1 = .inr (.inl z)) : ∃ z, (if c then a else b).1 = .inr (.inl z) := by
  split
  · exact h1
  · exact h2
/-- what an eye would guess behind k passes -/
def zgs (T : zTb) (e k : Nat) : Int := ((zhv (zW T e (-1) k) 5 1 0 : Nat) : Int)
/-- the weight where the pea is -/
def zri (T : zTb) (e : Nat) (sharp : Int) : Int := if zpeaAt T T.2.1 < 0 then 0 else zW T e sharp T.2.1 (zpeaAt T T.2.1).toNat
theorem zri_ok {n e : Nat} {sharp : Int} {T : zTb} (ho : zTOK n T) (he : e < 4) : 0 ≤ zri T e sharp ∧ zri T e sharp ≤ 100000000000000 := by
  have h14 := ho.2.2.2.2.1
  have h1 := zW_ok (sharp := sharp) ho he T.2.1 (by omega) (zpeaAt T T.2.1).toNat
  have h2 : zB T.2.1 ≤ 100000000000000 := (by decide : ∀ k, k < 15 → zB k ≤ 100000000000000) _ (by omega)
  unfold zri
  split
  · omega
  · exact ⟨h1.1, Int.le_trans h1.2 h2⟩
section
variable {X : zX} {C : zC} {d n : Nat} {L : zLt} {S : zSt} {T : zTb} {I : Nat → Nat → Int}
theorem zq_X_likeliest (hL : zLay L) {e : Nat} (he : e < 4) (ho : zTOK n T) (hT : zTC I 2 T) : ∃ I', zcal X zP (d + 6) 121 [.inr (.inr (.inl 1)), .inl (e : Int)] (I, L) = some (some (.inl (zgs T e T.2.1)), (I', L)) ∧ ∀ a, (a < 83 ∨ 100 ≤ a) → I' a = I a := by
  have h14 := ho.2.2.2.2.1
  obtain ⟨I', q1, q2, q3⟩ := zq_follow (X := X) (d := d) (sharp := -1) hL (Or.inl rfl) he ho hT
  have e2 : I' 2 2 = (T.2.1 : Int) := by rw [q2 2 (by omega)]; exact hT.2.2.1
  have hq := zq_likeliest (X := X) (d := d + 4) (I := I') (k := T.2.1) (w := zW T e (-1) T.2.1) (zsigL hL (Or.inl rfl)) (by omega) (q3 T.2.1 (Nat.le_refl _))
  refine ⟨I', ?_, fun a ha => q2 a (by omega)⟩
  refine ((zcal_go zp_X_likeliest rfl).trans zb_X_likeliest_0).trans ?_
  simp only [if_true, if_false, Option.bind_some, Option.bind, Option.toList, List.cons_append, List.nil_append, zite0, zite1, zite01, znn, ite_not, true_or, or_true, true_and, and_true, zn10, zn00, zk_1 hL, zr_1_0 hL, zk_2 hL, zr_1_4 hL, zk_83 hL, q1, zb_X_likeliest_13, e2, hq, zb_X_likeliest_27]
  try rfl
theorem zq_X_rightOf (hL : zLay L) {e : Nat} {sharp : Int} (he : e < 4) (ho : zTOK n T) (hT : zTC I 2 T) : ∃ I', zcal X zP (d + 6) 122 [.inr (.inr (.inl 1)), .inl (e : Int), .inl sharp] (I, L) = some (some (.inr (.inl (zri T e sharp))), (I', L)) ∧ ∀ a, (a < 83 ∨ 100 ≤ a) → I' a = I a := by
  have h14 := ho.2.2.2.2.1
  obtain ⟨I', q1, q2, q3⟩ := zq_follow (X := X) (d := d) (sharp := sharp) hL (Or.inl rfl) he ho hT
  have e2 : I' 2 2 = (T.2.1 : Int) := by rw [q2 2 (by omega)]; exact hT.2.2.1
  have hT' : zTC I' 2 T := zTC_row h14 (fun a _ ha => q2 a (by omega)) hT
  have hp := zq_Table_peaBehind (X := X) (d := d) (ztabL hL (Or.inl rfl)) hT' ho (k := T.2.1) (Nat.le_refl _)
  have hin := zpeaAt_in ho (Nat.le_refl T.2.1)
  have h0 := ho.1
  have hq := zq_at (X := X) (d := d + 4) (I := I') (k := T.2.1) (p := zpeaAt T T.2.1) (zsigL hL (Or.inl rfl)) (by omega) (by omega)
  have ev : (if zpeaAt T T.2.1 < 0 then 0 else I' (83 + 2 + T.2.1) (zpeaAt T T.2.1).toNat) = zri T e sharp := by
    unfold zri
    split
    · rfl
    · exact q3 T.2.1 (Nat.le_refl _) _ (by omega)
  rw [ev] at hq
  refine ⟨I', ?_, fun a ha => q2 a (by omega)⟩
  refine ((zcal_go zp_X_rightOf rfl).trans zb_X_rightOf_0).trans ?_
  simp only [if_true, if_false, Option.bind_some, Option.bind, Option.toList, List.cons_append, List.nil_append, zite0, zite1, zite01, znn, ite_not, true_or, or_true, true_and, and_true, zn10, zn00, zk_1 hL, zr_1_0 hL, zk_2 hL, zr_1_4 hL, zk_83 hL, q1, zb_X_rightOf_13, e2, hp, zb_X_rightOf_38, hq, zb_X_rightOf_41]
theorem zq_M_guessB (hL : zLay L) {e k : Nat} (he : e < 4) (ho : zTOK n T) (hT : zTM I 136 T) (hk : k ≤ T.2.1) : ∃ I', zcal X zP (d + 5) 170 [.inr (.inr (.inl 135)), .inl (e : Int), .inl (k : Int)] (I, L) = some (some (.inl (zgs T e k)), (I', L)) ∧ ∀ a, a ≠ 141 → a ≠ 142 → I' a = I a := by
  have h14 := ho.2.2.2.2.1
  obtain ⟨I', q1, q2, q3⟩ := zq_M_watches (X := X) (d := d) (sharp := -1) hL he ho hT hk
  have e0 : I' 136 0 = T.1 0 := by rw [q2 136 (by omega) (by omega)]; exact hT.1 0 (by omega)
  have hq := zq_M_heaviest (X := X) (d := d + 3) (I := I') hL ho.1 e0 q3 (fun q => (zW_ok ho he k (by omega) q).1) (fun q hq => zW_hi ho he hq k)
  refine ⟨I', ?_, q2⟩
  refine ((zcal_go zp_M_guessBehind rfl).trans zb_M_guessBehind_0).trans ?_
  simp only [if_true, if_false, Option.bind_some, Option.bind, Option.toList, List.cons_append, List.nil_append, zite0, zite1, zite01, znn, ite_not, true_or, or_true, true_and, and_true, zn10, zn00, zk_135 hL, zr_135_0 hL, z6_0 hL, z6_1 hL, z6_2 hL, z6_3 hL, z6_4 hL, q1, zb_M_guessBehind_7, hq, zb_M_guessBehind_11]
  try rfl
theorem zq_M_rightNow (hL : zLay L) {p : Int} (hp : -1 ≤ p ∧ p < 6) : zcal X zP (d + 1) 172 [.inr (.inr (.inl 135)), .inl p] (I, L) = some (some (.inr (.inl (if p < 0 then 0 else I 141 p.toNat))), (I, L)) := by
  refine ((zcal_go zp_M_rightNow rfl).trans zb_M_rightNow_0).trans ?_
  by_cases h : p = -1
  · rw [if_pos h, if_pos (by omega)]
  · obtain ⟨q, rfl⟩ := Int.eq_ofNat_of_zero_le (show 0 ≤ p by omega)
    have e0 : (if (q : Int) < 0 then (0 : Int) else I 141 (q : Int).toNat) = I 141 q := (if_neg (by omega)).trans (by rw [Int.toNat_natCast])
    rw [e0]
    simp only [if_true, if_false, Option.bind_some, Option.bind, Option.toList, List.cons_append, List.nil_append, zite0, zite1, zite01, znn, ite_not, true_or, or_true, true_and, and_true, zn10, zn00, eq_false h, zk_135 hL, zr_135_0 hL, z6_0 hL, z6_1 hL, z6_2 hL, z6_3 hL, z6_4 hL, zr_135_7 hL, zc141 hL (show q < 6 by omega), Int.toNat_natCast]
theorem zq_M_rightOf (hL : zLay L) {e : Nat} {sharp : Int} (he : e < 4) (ho : zTOK n T) (hT : zTM I 136 T) : ∃ I', zcal X zP (d + 5) 173 [.inr (.inr (.inl 135)), .inl (e : Int), .inl sharp] (I, L) = some (some (.inr (.inl (zri T e sharp))), (I', L)) ∧ ∀ a, a ≠ 141 → a ≠ 142 → I' a = I a := by
  have h14 := ho.2.2.2.2.1
  have e1 : I 136 1 = (T.2.1 : Int) := hT.2.1
  obtain ⟨I', q1, q2, q3⟩ := zq_M_watches (X := X) (d := d) (sharp := sharp) hL he ho hT (Nat.le_refl T.2.1)
  have e2 : I' 136 1 = (T.2.1 : Int) := by rw [q2 136 (by omega) (by omega)]; exact e1
  have hT' : zTM I' 136 T := zTM_row (q2 136 (by omega) (by omega)) hT
  have hp := zq_M_peaBehind (X := X) (d := d) hL hT' ho (k := T.2.1) (Nat.le_refl _)
  have hin := zpeaAt_in ho (Nat.le_refl T.2.1)
  have h0 := ho.1
  have hq := zq_M_rightNow (X := X) (d := d + 3) (I := I') (p := zpeaAt T T.2.1) hL (by omega)
  have ev : (if zpeaAt T T.2.1 < 0 then 0 else I' 141 (zpeaAt T T.2.1).toNat) = zri T e sharp := by
    unfold zri
    split
    · rfl
    · exact q3 _ (by omega)
  rw [ev] at hq
  refine ⟨I', ?_, q2⟩
  refine ((zcal_go zp_M_rightOf rfl).trans zb_M_rightOf_0).trans ?_
  simp only [if_true, if_false, Option.bind_some, Option.bind, Option.toList, List.cons_append, List.nil_append, zite0, zite1, zite01, znn, ite_not, true_or, or_true, true_and, and_true, zn10, zn00, zk_135 hL, zr_135_0 hL, z6_0 hL, z6_1 hL, z6_2 hL, z6_3 hL, z6_4 hL, e1, q1, zb_M_rightOf_12, e2, hp, zb_M_rightOf_23, hq, zb_M_rightOf_26]
def zr_weight (S : zSt) (e k p : Int) : zV × zSt := if (0 ≤ e ∧ e ≤ 3) ∧ (0 ≤ k ∧ k ≤ (S.1.2.1 : Int)) ∧ (0 ≤ p ∧ p ≤ S.1.1 0 - 1) then (.inr (.inl (zW S.1 e.toNat (-1) k.toNat p.toNat)), S) else (.inr (.inl (-1000001)), zSf S 0)
theorem zx_weight (hL : zLay L) (ho : zSOK n S) {e k p : Int} : zHX X L (d + 6) 80 [.inl e, .inl k, .inl p] S (zr_weight S e k p) := by
  intro I hr
  have h14 := ho.1.2.2.2.2.1
  have h0 := ho.1.1
  have hb := zq_X_isEye (X := X) (d := d + 3) (σ := (I, L)) (v := e)
  have hc := zq_X_isBehind (X := X) (d := d + 3) (v := k) hL hr.1 ho.1
  have hd := zq_X_isPlace (X := X) (d := d + 3) (v := p) hL hr.1 ho.1
  obtain ⟨J, h1, h2, h3⟩ := zX_tellc (X := X) (d := d + 4) (k := 0) (c := -1000001) hL ho (by omega) (by omega) hr
  unfold zr_weight
  by_cases he : 0 ≤ e ∧ e ≤ 3
  · rw [if_pos he] at hb
    by_cases hk : 0 ≤ k ∧ k ≤ (S.1.2.1 : Int)
    · rw [if_pos hk] at hc
      by_cases hp : 0 ≤ p ∧ p ≤ S.1.1 0 - 1
      · rw [if_pos hp] at hd
        rw [if_pos ⟨he, hk, hp⟩]
        obtain ⟨e, rfl⟩ := Int.eq_ofNat_of_zero_le he.1
        obtain ⟨k, rfl⟩ := Int.eq_ofNat_of_zero_le hk.1
        rw [Int.toNat_natCast, Int.toNat_natCast]
        obtain ⟨I', q1, q2, q3⟩ := zq_follow (X := X) (d := d) (sharp := -1) hL (Or.inl rfl) (show e < 4 by omega) ho.1 hr.1
        have hq := zq_at (X := X) (d := d + 4) (I := I') (k := k) (p := p) (zsigL hL (Or.inl rfl)) (by omega) (by omega)
        have ev : (if p < 0 then 0 else I' (83 + 2 + k) p.toNat) = zW S.1 e (-1) k p.toNat := (if_neg (by omega)).trans (q3 k (by omega) _ (by omega))
        rw [ev] at hq
        refine ⟨I', ?_, zRX_scr ho (fun a ha => q2 a (by omega)) hr, fun a ha => q2 a (by omega)⟩
        refine ((zcal_go zp_X_weight rfl).trans zb_X_weight_0).trans ?_
        simp only [if_true, if_false, Option.bind_some, Option.bind, Option.toList, List.cons_append, List.nil_append, zite0, zite1, zite01, znn, ite_not, true_or, or_true, true_and, and_true, zn10, zn00, zk_1 hL, zr_1_0 hL, zk_2 hL, hb, hc, hd, zb_X_weight_4, zb_X_weight_12, zb_X_weight_20, zr_1_4 hL, zk_83 hL, q1, zb_X_weight_44, hq, zb_X_weight_53]
      · rw [if_neg hp] at hd
        rw [if_neg (fun h => hp h.2.2)]
        refine ⟨J, ?_, h2, h3⟩
        refine ((zcal_go zp_X_weight rfl).trans zb_X_weight_0).trans ?_
        simp only [if_true, if_false, Option.bind_some, Option.bind, Option.toList, List.cons_append, List.nil_append, zite0, zite1, zite01, znn, ite_not, true_or, or_true, true_and, and_true, zn10, zn00, zk_1 hL, zr_1_0 hL, zk_2 hL, hb, hc, hd, zb_X_weight_4, zb_X_weight_12, zb_X_weight_20, h1, zb_X_weight_29]
    · rw [if_neg hk] at hc
      rw [if_neg (fun h => hk h.2.1)]
      refine ⟨J, ?_, h2, h3⟩
      refine ((zcal_go zp_X_weight rfl).trans zb_X_weight_0).trans ?_
      simp only [if_true, if_false, Option.bind_some, Option.bind, Option.toList, List.cons_append, List.nil_append, zite0, zite1, zite01, znn, ite_not, true_or, or_true, true_and, and_true, zn10, zn00, zk_1 hL, zr_1_0 hL, zk_2 hL, hb, hc, zb_X_weight_4, zb_X_weight_12, h1, zb_X_weight_29]
  · rw [if_neg he] at hb
    rw [if_neg (fun h => he h.1)]
    refine ⟨J, ?_, h2, h3⟩
    refine ((zcal_go zp_X_weight rfl).trans zb_X_weight_0).trans ?_
    simp only [if_true, if_false, Option.bind_some, Option.bind, Option.toList, List.cons_append, List.nil_append, zite0, zite1, zite01, znn, ite_not, true_or, or_true, true_and, and_true, zn10, zn00, zk_1 hL, zr_1_0 hL, zk_2 hL, hb, zb_X_weight_4, h1, zb_X_weight_29]
theorem zm_weight (hL : zLay L) (ho : zSOK n S) {e k p : Int} : zHM X L (d + 5) 169 [.inl e, .inl k, .inl p] S (zr_weight S e k p) := by
  intro I hr
  have h14 := ho.1.2.2.2.2.1
  have h0 := ho.1.1
  have e1 : I 136 1 = (S.1.2.1 : Int) := hr.1.2.1
  have hb := zq_M_isFour (X := X) (d := d + 2) (σ := (I, L)) (v := e)
  have hc := zq_M_in (X := X) (d := d + 3) (σ := (I, L)) (v := k) (a := 0) (b := (S.1.2.1 : Int))
  have hd := zq_M_isPlace (X := X) (d := d + 2) (v := p) hL hr.1 ho.1
  obtain ⟨J, h1, h2, h3⟩ := zM_findsc (X := X) (d := d + 3) (k := 0) (c := -1000001) (k' := 0) hL ho (by omega) (by omega) (by omega) hr
  unfold zr_weight
  by_cases he : 0 ≤ e ∧ e ≤ 3
  · rw [if_pos he] at hb
    by_cases hk : 0 ≤ k ∧ k ≤ (S.1.2.1 : Int)
    · rw [if_pos hk] at hc
      by_cases hp : 0 ≤ p ∧ p ≤ S.1.1 0 - 1
      · rw [if_pos hp] at hd
        rw [if_pos ⟨he, hk, hp⟩]
        obtain ⟨e, rfl⟩ := Int.eq_ofNat_of_zero_le he.1
        obtain ⟨k, rfl⟩ := Int.eq_ofNat_of_zero_le hk.1
        obtain ⟨p, rfl⟩ := Int.eq_ofNat_of_zero_le hp.1
        rw [Int.toNat_natCast, Int.toNat_natCast, Int.toNat_natCast]
        obtain ⟨I', q1, q2, q3⟩ := zq_M_watches (X := X) (d := d) (sharp := -1) hL (show e < 4 by omega) ho.1 hr.1 (show k ≤ S.1.2.1 by omega)
        have ev := q3 p (by omega)
        refine ⟨I', ?_, zRM_scr (fun a _ ha => q2 a (by omega) (by omega)) hr, fun a ha => q2 a (by omega) (by omega)⟩
        refine ((zcal_go zp_M_weight rfl).trans zb_M_weight_0).trans ?_
        simp only [if_true, if_false, Option.bind_some, Option.bind, Option.toList, List.cons_append, List.nil_append, zite0, zite1, zite01, znn, ite_not, true_or, or_true, true_and, and_true, zn10, zn00, zk_135 hL, zr_135_0 hL, z6_0 hL, z6_1 hL, z6_2 hL, z6_3 hL, z6_4 hL, hb, e1, hc, hd, zb_M_weight_4, zb_M_weight_20, zb_M_weight_28, q1, zb_M_weight_45, zr_135_7 hL, zc141 hL (show p < 6 by omega), Int.toNat_natCast, ev]
      · rw [if_neg hp] at hd
        rw [if_neg (fun h => hp h.2.2)]
        refine ⟨J, ?_, h2, h3⟩
        refine ((zcal_go zp_M_weight rfl).trans zb_M_weight_0).trans ?_
        simp only [if_true, if_false, Option.bind_some, Option.bind, Option.toList, List.cons_append, List.nil_append, zite0, zite1, zite01, znn, ite_not, true_or, or_true, true_and, and_true, zn10, zn00, zk_135 hL, zr_135_0 hL, z6_0 hL, z6_1 hL, z6_2 hL, z6_3 hL, z6_4 hL, hb, e1, hc, hd, zb_M_weight_4, zb_M_weight_20, zb_M_weight_28, h1, zb_M_weight_36]
    · rw [if_neg hk] at hc
      rw [if_neg (fun h => hk h.2.1)]
      refine ⟨J, ?_, h2, h3⟩
      refine ((zcal_go zp_M_weight rfl).trans zb_M_weight_0).trans ?_
      simp only [if_true, if_false, Option.bind_some, Option.bind, Option.toList, List.cons_append, List.nil_append, zite0, zite1, zite01, znn, ite_not, true_or, or_true, true_and, and_true, zn10, zn00, zk_135 hL, zr_135_0 hL, z6_0 hL, z6_1 hL, z6_2 hL, z6_3 hL, z6_4 hL, hb, e1, hc, zb_M_weight_4, zb_M_weight_20, h1, zb_M_weight_36]
  · rw [if_neg he] at hb
    rw [if_neg (fun h => he h.1)]
    refine ⟨J, ?_, h2, h3⟩
    refine ((zcal_go zp_M_weight rfl).trans zb_M_weight_0).trans ?_
    simp only [if_true, if_false, Option.bind_some, Option.bind, Option.toList, List.cons_append, List.nil_append, zite0, zite1, zite01, znn, ite_not, true_or, or_true, true_and, and_true, zn10, zn00, zk_135 hL, zr_135_0 hL, z6_0 hL, z6_1 hL, z6_2 hL, z6_3 hL, z6_4 hL, hb, zb_M_weight_4, h1, zb_M_weight_36]
theorem zo_weight (ho : zSOK n S) (hn : n < 100000) {e k p : Int} : zSOK (n + 1) (zr_weight S e k p).2 := by
  unfold zr_weight
  exact zif2 (fun _ => zSOK_up ho hn) (fun _ => zSOK_f ho (by omega) hn)
theorem zA10 (hL : zLay L) : zA_10 X L := fun n a1 a2 a3 _ _ _ S ho hn => zCL (zr_weight S a1 a2 a3) (by unfold zr_weight; exact zif3 ⟨_, rfl⟩ ⟨_, rfl⟩) (zx_weight (d := 34) hL ho) (zm_weight (d := 35) hL ho) (zo_weight ho hn)
def zr_guess (S : zSt) (e : Int) : zV × zSt := if 0 ≤ e ∧ e ≤ 3 then (.inl (zgs S.1 e.toNat S.1.2.1), S) else (.inl (-1000001), zSf S 0)
theorem zx_guess (hL : zLay L) (ho : zSOK n S) {e : Int} : zHX X L (d + 7) 81 [.inl e] S (zr_guess S e) := by
  intro I hr
  have hb := zq_X_isEye (X := X) (d := d + 4) (σ := (I, L)) (v := e)
  obtain ⟨J, h1, h2, h3⟩ := zX_tellc (X := X) (d := d + 5) (k := 0) (c := -1000001) hL ho (by omega) (by omega) hr
  unfold zr_guess
  by_cases he : 0 ≤ e ∧ e ≤ 3
  · rw [if_pos he] at hb ⊢
    obtain ⟨e, rfl⟩ := Int.eq_ofNat_of_zero_le he.1
    rw [Int.toNat_natCast]
    obtain ⟨I', q1, q2⟩ := zq_X_likeliest (X := X) (d := d) hL (show e < 4 by omega) ho.1 hr.1
    refine ⟨I', ?_, zRX_scr ho (fun a ha => q2 a (by omega)) hr, fun a ha => q2 a (by omega)⟩
    refine ((zcal_go zp_X_guess rfl).trans zb_X_guess_0).trans ?_
    simp only [if_true, if_false, Option.bind_some, Option.bind, Option.toList, List.cons_append, List.nil_append, zite0, zite1, zite01, znn, ite_not, true_or, or_true, true_and, and_true, zn10, zn00, zk_1 hL, zr_1_0 hL, zk_2 hL, hb, zb_X_guess_4, q1, zb_X_guess_19]
  · rw [if_neg he] at hb ⊢
    refine ⟨J, ?_, h2, h3⟩
    refine ((zcal_go zp_X_guess rfl).trans zb_X_guess_0).trans ?_
    simp only [if_true, if_false, Option.bind_some, Option.bind, Option.toList, List.cons_append, List.nil_append, zite0, zite1, zite01, znn, ite_not, true_or, or_true, true_and, and_true, zn10, zn00, zk_1 hL, zr_1_0 hL, zk_2 hL, hb, zb_X_guess_4, h1, zb_X_guess_13]
theorem zm_guess (hL : zLay L) (ho : zSOK n S) {e : Int} : zHM X L (d + 6) 171 [.inl e] S (zr_guess S e) := by
  intro I hr
  have e1 : I 136 1 = (S.1.2.1 : Int) := hr.1.2.1
  have hb := zq_M_isFour (X := X) (d := d + 3) (σ := (I, L)) (v := e)
  obtain ⟨J, h1, h2, h3⟩ := zM_findsc (X := X) (d := d + 4) (k := 0) (c := -1000001) (k' := 0) hL ho (by omega) (by omega) (by omega) hr
  unfold zr_guess
  by_cases he : 0 ≤ e ∧ e ≤ 3
  · rw [if_pos he] at hb ⊢
    obtain ⟨e, rfl⟩ := Int.eq_ofNat_of_zero_le he.1
    rw [Int.toNat_natCast]
    obtain ⟨I', q1, q2⟩ := zq_M_guessB (X := X) (d := d) hL (show e < 4 by omega) ho.1 hr.1 (Nat.le_refl S.1.2.1)
    refine ⟨I', ?_, zRM_scr (fun a _ ha => q2 a (by omega) (by omega)) hr, fun a ha => q2 a (by omega) (by omega)⟩
    refine ((zcal_go zp_M_guess rfl).trans zb_M_guess_0).trans ?_
    simp only [if_true, if_false, Option.bind_some, Option.bind, Option.toList, List.cons_append, List.nil_append, zite0, zite1, zite01, znn, ite_not, true_or, or_true, true_and, and_true, zn10, zn00, zk_135 hL, zr_135_0 hL, z6_0 hL, z6_1 hL, z6_2 hL, z6_3 hL, z6_4 hL, hb, zb_M_guess_4, e1, q1, zb_M_guess_18, zb_M_guess_26]
  · rw [if_neg he] at hb ⊢
    refine ⟨J, ?_, h2, h3⟩
    refine ((zcal_go zp_M_guess rfl).trans zb_M_guess_0).trans ?_
    simp only [if_true, if_false, Option.bind_some, Option.bind, Option.toList, List.cons_append, List.nil_append, zite0, zite1, zite01, znn, ite_not, true_or, or_true, true_and, and_true, zn10, zn00, zk_135 hL, zr_135_0 hL, z6_0 hL, z6_1 hL, z6_2 hL, z6_3 hL, z6_4 hL, hb, zb_M_guess_4, h1, zb_M_guess_26]
theorem zo_guess (ho : zSOK n S) (hn : n < 100000) {e : Int} : zSOK (n + 1) (zr_guess S e).2 := by
  unfold zr_guess
  exact zif2 (fun _ => zSOK_up ho hn) (fun _ => zSOK_f ho (by omega) hn)
theorem zA11 (hL : zLay L) : zA_11 X L := fun n a1 _ S ho hn => zCI (zr_guess S a1) (by unfold zr_guess; exact zif1 ⟨_, rfl⟩ ⟨_, rfl⟩) (zx_guess (d := 33) hL ho) (zm_guess (d := 34) hL ho) (zo_guess ho hn)
def zr_right (S : zSt) (e : Int) : zV × zSt := if 0 ≤ e ∧ e ≤ 3 then (.inr (.inl (zri S.1 e.toNat (-1))), S) else (.inr (.inl (-1000001)), zSf S 0)
theorem zx_right (hL : zLay L) (ho : zSOK n S) {e : Int} : zHX X L (d + 7) 82 [.inl e] S (zr_right S e) := by
  intro I hr
  have hb := zq_X_isEye (X := X) (d := d + 4) (σ := (I, L)) (v := e)
  obtain ⟨J, h1, h2, h3⟩ := zX_tellc (X := X) (d := d + 5) (k := 0) (c := -1000001) hL ho (by omega) (by omega) hr
  unfold zr_right
  by_cases he : 0 ≤ e ∧ e ≤ 3
  · rw [if_pos he] at hb ⊢
    obtain ⟨e, rfl⟩ := Int.eq_ofNat_of_zero_le he.1
    rw [Int.toNat_natCast]
    obtain ⟨I', q1, q2⟩ := zq_X_rightOf (X := X) (d := d) (sharp := -1) hL (show e < 4 by omega) ho.1 hr.1
    refine ⟨I', ?_, zRX_scr ho (fun a ha => q2 a (by omega)) hr, fun a ha => q2 a (by omega)⟩
    refine ((zcal_go zp_X_right rfl).trans zb_X_right_0).trans ?_
    simp only [if_true, if_false, Option.bind_some, Option.bind, Option.toList, List.cons_append, List.nil_append, zite0, zite1, zite01, znn, ite_not, true_or, or_true, true_and, and_true, zn10, zn00, zk_1 hL, zr_1_0 hL, zk_2 hL, hb, zb_X_right_4, q1, zb_X_right_21]
  · rw [if_neg he] at hb ⊢
    refine ⟨J, ?_, h2, h3⟩
    refine ((zcal_go zp_X_right rfl).trans zb_X_right_0).trans ?_
    simp only [if_true, if_false, Option.bind_some, Option.bind, Option.toList, List.cons_append, List.nil_append, zite0, zite1, zite01, znn, ite_not, true_or, or_true, true_and, and_true, zn10, zn00, zk_1 hL, zr_1_0 hL, zk_2 hL, hb, zb_X_right_4, h1, zb_X_right_13]
theorem zm_right (hL : zLay L) (ho : zSOK n S) {e : Int} : zHM X L (d + 6) 174 [.inl e] S (zr_right S e) := by
  intro I hr
  have hb := zq_M_isFour (X := X) (d := d + 3) (σ := (I, L)) (v := e)
  obtain ⟨J, h1, h2, h3⟩ := zM_findsc (X := X) (d := d + 4) (k := 0) (c := -1000001) (k' := 0) hL ho (by omega) (by omega) (by omega) hr
  unfold zr_right
  by_cases he : 0 ≤ e ∧ e ≤ 3
  · rw [if_pos he] at hb ⊢
    obtain ⟨e, rfl⟩ := Int.eq_ofNat_of_zero_le he.1
    rw [Int.toNat_natCast]
    obtain ⟨I', q1, q2⟩ := zq_M_rightOf (X := X) (d := d) (sharp := -1) hL (show e < 4 by omega) ho.1 hr.1
    refine ⟨I', ?_, zRM_scr (fun a _ ha => q2 a (by omega) (by omega)) hr, fun a ha => q2 a (by omega) (by omega)⟩
    refine ((zcal_go zp_M_right rfl).trans zb_M_right_0).trans ?_
    simp only [if_true, if_false, Option.bind_some, Option.bind, Option.toList, List.cons_append, List.nil_append, zite0, zite1, zite01, znn, ite_not, true_or, or_true, true_and, and_true, zn10, zn00, zk_135 hL, zr_135_0 hL, z6_0 hL, z6_1 hL, z6_2 hL, z6_3 hL, z6_4 hL, hb, zb_M_right_4, q1, zb_M_right_13]
  · rw [if_neg he] at hb ⊢
    refine ⟨J, ?_, h2, h3⟩
    refine ((zcal_go zp_M_right rfl).trans zb_M_right_0).trans ?_
    simp only [if_true, if_false, Option.bind_some, Option.bind, Option.toList, List.cons_append, List.nil_append, zite0, zite1, zite01, znn, ite_not, true_or, or_true, true_and, and_true, zn10, zn00, zk_135 hL, zr_135_0 hL, z6_0 hL, z6_1 hL, z6_2 hL, z6_3 hL, z6_4 hL, hb, zb_M_right_4, h1, zb_M_right_21]
theorem zo_right (ho : zSOK n S) (hn : n < 100000) {e : Int} : zSOK (n + 1) (zr_right S e).2 := by
  unfold zr_right
  exact zif2 (fun _ => zSOK_up ho hn) (fun _ => zSOK_f ho (by omega) hn)
theorem zA12 (hL : zLay L) : zA_12 X L := fun n a1 _ S ho hn => zCL (zr_right S a1) (by unfold zr_right; exact zif3 ⟨_, rfl⟩ ⟨_, rfl⟩) (zx_right (d := 33) hL ho) (zm_right (d := 34) hL ho) (zo_right ho hn)
end
