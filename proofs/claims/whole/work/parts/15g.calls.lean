/-! CONTRACTS OF CALLS: round. -/
def zstk (pu st : Int) : Int := if pu < st then pu else st
def zraise (st : Int) : Int := if 99 < 2 * st then 99 else 2 * st
def zlower (st : Int) : Int := if Int.tdiv st 2 < 1 then 1 else Int.tdiv st 2
theorem ztdiv2 {st : Int} (h : 0 ≤ st) : Int.tdiv st 2 = st / 2 := Int.tdiv_eq_ediv_of_nonneg h
theorem zraise_ok {st : Int} (h : 1 ≤ st ∧ st ≤ 99) : 1 ≤ zraise st ∧ zraise st ≤ 99 := by unfold zraise; split <;> omega
theorem zlower_ok {st : Int} (h : 1 ≤ st ∧ st ≤ 99) : 1 ≤ zlower st ∧ zlower st ≤ 99 := by
  unfold zlower
  rw [ztdiv2 (by omega)]
  split <;> omega
theorem zstk_ok {pu st : Int} (hp : 0 ≤ pu) (h : 1 ≤ st ∧ st ≤ 99) : 0 ≤ zstk pu st ∧ zstk pu st ≤ 99 ∧ zstk pu st ≤ pu := by unfold zstk; split <;> omega
/-- a round: 1 it wins, 0 not -/
def zrnd (T : zTb) (p : Nat) (w : Int) : zTb := zTset (zTset (zTset (zTset T (55 + 4 * p) (if w = 0 then T.1 (55 + 4 * p) - zstk (T.1 (55 + 4 * p)) (T.1 (56 + 4 * p)) else T.1 (55 + 4 * p) + zstk (T.1 (55 + 4 * p)) (T.1 (56 + 4 * p)))) (56 + 4 * p) (if w = 0 then zlower (T.1 (56 + 4 * p)) else zraise (T.1 (56 + 4 * p)))) (58 + 4 * p) (if w = 0 then T.1 (58 + 4 * p) + 1 else 0)) 4 (if w = 0 then T.1 4 + zstk (T.1 (55 + 4 * p)) (T.1 (56 + 4 * p)) else T.1 4 - zstk (T.1 (55 + 4 * p)) (T.1 (56 + 4 * p)))
theorem zTOK_rnd {n p : Nat} {w : Int} {T : zTb} (hp : p < 4) (ho : zTOK n T) : zTOK (n + 1) (zrnd T p w) := by
  have h8 := ho.2.2.2.2.2.2.2.1 p hp
  have h4 := ho.2.2.2.1
  have hs := zstk_ok h8.1.1 h8.2.1
  have hra := zraise_ok h8.2.1
  have hlo := zlower_ok h8.2.1
  have h1 := zTOK_up ho (show n ≤ n + 1 by omega)
  unfold zrnd
  refine zTOK_set (by omega) (by omega) (by omega) (fun _ => ?_) (fun q hq => ⟨by omega, by omega⟩) (fun q hq => ⟨by omega, by omega, by omega, by omega⟩) (fun s hs => by omega) ?_
  · split <;> omega
  refine zTOK_set (by omega) (by omega) (by omega) (by omega) (fun q hq => ⟨by omega, by omega⟩) (fun q hq => ⟨by omega, by omega, by omega, fun _ => ?_⟩) (fun s hs => by omega) ?_
  · split <;> omega
  refine zTOK_set (by omega) (by omega) (by omega) (by omega) (fun q hq => ⟨by omega, by omega⟩) (fun q hq => ⟨by omega, fun _ => ?_, by omega, by omega⟩) (fun s hs => by omega) ?_
  · split
    · exact hlo
    · exact hra
  refine zTOK_set (by omega) (by omega) (by omega) (by omega) (fun q hq => ⟨by omega, by omega⟩) (fun q hq => ⟨fun _ => ?_, by omega, by omega, by omega⟩) (fun s hs => by omega) h1
  · split <;> omega
theorem zkeepX_tr {I I1 I2 : Nat → Nat → Int} (h1 : zkeepX I I1) (h2 : zkeepX I1 I2) : zkeepX I I2 := by
  obtain ⟨a1, a2, a3, a4, a5, a6⟩ := h1
  obtain ⟨b1, b2, b3, b4, b5, b6⟩ := h2
  exact ⟨b1.trans a1, fun a x y => (b2 a x y).trans (a2 a x y), b3.trans a3, b4.trans a4, b5.trans a5, fun a x y => (b6 a x y).trans (a6 a x y)⟩
theorem zkeepM_tr {I I1 I2 : Nat → Nat → Int} (h1 : zkeepM I I1) (h2 : zkeepM I1 I2) : zkeepM I I2 := by
  obtain ⟨a1, a2, a3, a4, a5, a6, a7, a8⟩ := h1
  obtain ⟨b1, b2, b3, b4, b5, b6, b7, b8⟩ := h2
  exact ⟨b1.trans a1, b2.trans a2, b3.trans a3, b4.trans a4, b5.trans a5, b6.trans a6, b7.trans a7, b8.trans a8⟩
section
variable {X : zX} {C : zC} {d n : Nat} {L : zLt} {S : zSt} {I : Nat → Nat → Int} {T : zTb}
theorem zq_playRound (hL : zLay L) (hT : zTC I 2 T) (ho : zTOK n T) (hn : n ≤ 200000) {p : Nat} (hp : p < 4) {w : Int} (hw : w = 0 ∨ w = 1) : ∃ I', zcal X zP (d + 3) 48 [.inr (.inr (.inl 2)), .inl (p : Int), .inl w] (I, L) = some (some (.inl (zstk (T.1 (55 + 4 * p)) (T.1 (56 + 4 * p)))), (I', L)) ∧ zTC I' 2 (zrnd T p w) ∧ zkeepX I I' ∧ ∀ a, 135 ≤ a → I' a = I a := by
  have h8 := hT.2.2.2.2.2.2.2.1
  have q0 : I (25 + p) 0 = T.1 (55 + 4 * p) := h8 p 0 hp (by omega)
  have q1 : I (25 + p) 1 = T.1 (56 + 4 * p) := by rw [show 56 + 4 * p = 55 + 4 * p + 1 by omega]; exact h8 p 1 hp (by omega)
  have q3 : I (25 + p) 3 = T.1 (58 + 4 * p) := by rw [show 58 + 4 * p = 55 + 4 * p + 3 by omega]; exact h8 p 3 hp (by omega)
  have qt : I 2 3 = T.1 4 := hT.2.2.2.1
  have o8 := ho.2.2.2.2.2.2.2.1 p hp
  have o4 := ho.2.2.2.1
  have hs := zstk_ok o8.1.1 o8.2.1
  obtain ⟨l3, l4⟩ := zpl hL hp
  have h14 := ho.2.2.2.2.1
  have e1 : ∀ v, zwI I (25 + p) 0 v (25 + p) 1 = T.1 (56 + 4 * p) := fun v => (zwI_nej (by omega)).trans q1
  have e3 : ∀ v u, zwI (zwI I (25 + p) 0 v) (25 + p) 1 u (25 + p) 3 = T.1 (58 + 4 * p) := fun v u => (zwI_nej (by omega)).trans ((zwI_nej (by omega)).trans q3)
  have e4 : ∀ v u z, zwI (zwI (zwI I (25 + p) 0 v) (25 + p) 1 u) (25 + p) 3 z 2 3 = T.1 4 := fun v u z => (zwI_ne (by omega)).trans ((zwI_ne (by omega)).trans ((zwI_ne (by omega)).trans qt))
  have es : (if T.1 (55 + 4 * p) < T.1 (56 + 4 * p) then T.1 (55 + 4 * p) else T.1 (56 + 4 * p)) = zstk (T.1 (55 + 4 * p)) (T.1 (56 + 4 * p)) := rfl
  have w1 : w32 (T.1 (55 + 4 * p) - zstk (T.1 (55 + 4 * p)) (T.1 (56 + 4 * p))) = T.1 (55 + 4 * p) - zstk (T.1 (55 + 4 * p)) (T.1 (56 + 4 * p)) := zw32 (by omega) (by omega)
  have w2 : w32 (T.1 (55 + 4 * p) + zstk (T.1 (55 + 4 * p)) (T.1 (56 + 4 * p))) = T.1 (55 + 4 * p) + zstk (T.1 (55 + 4 * p)) (T.1 (56 + 4 * p)) := zw32 (by omega) (by omega)
  have w3 : w32 (T.1 (58 + 4 * p) + 1) = T.1 (58 + 4 * p) + 1 := zw32 (by omega) (by omega)
  have w4 : w32 (T.1 4 + zstk (T.1 (55 + 4 * p)) (T.1 (56 + 4 * p))) = T.1 4 + zstk (T.1 (55 + 4 * p)) (T.1 (56 + 4 * p)) := zw32 (by omega) (by omega)
  have w5 : w32 (T.1 4 - zstk (T.1 (55 + 4 * p)) (T.1 (56 + 4 * p))) = T.1 4 - zstk (T.1 (55 + 4 * p)) (T.1 (56 + 4 * p)) := zw32 (by omega) (by omega)
  have hra : ∀ (d : Nat) (σ : zMem), zcal X zP (d + 1) 21 [.inl (T.1 (56 + 4 * p))] σ = some (some (.inl (zraise (T.1 (56 + 4 * p)))), σ) := by
    intro d σ
    refine ((zcal_go zp_Player_raised rfl).trans zb_Player_raised_0).trans ?_
    rw [zw32 (by omega) (by omega)]
    rfl
  have hlo : ∀ (d : Nat) (σ : zMem), zcal X zP (d + 1) 22 [.inl (T.1 (56 + 4 * p))] σ = some (some (.inl (zlower (T.1 (56 + 4 * p)))), σ) := by
    intro d σ
    refine ((zcal_go zp_Player_lowered rfl).trans zb_Player_lowered_0).trans ?_
    have := ztdiv2 (st := T.1 (56 + 4 * p)) (by omega)
    rw [zw32 (by omega) (by omega)]
    rfl
  rcases hw with rfl | rfl
  · refine ⟨zwI (zwI (zwI (zwI I (25 + p) 0 (T.1 (55 + 4 * p) - zstk (T.1 (55 + 4 * p)) (T.1 (56 + 4 * p)))) (25 + p) 1 (zlower (T.1 (56 + 4 * p)))) (25 + p) 3 (T.1 (58 + 4 * p) + 1)) 2 3 (T.1 4 + zstk (T.1 (55 + 4 * p)) (T.1 (56 + 4 * p))), ?_, ?_, ?_, fun a ha => ?_⟩
    · have hq : zcal X zP (d + 2) 18 [.inr (.inr (.inl (25 + p))), .inl 0] (I, L) = some (some (.inl (zstk (T.1 (55 + 4 * p)) (T.1 (56 + 4 * p)))), (zwI (zwI (zwI I (25 + p) 0 (T.1 (55 + 4 * p) - zstk (T.1 (55 + 4 * p)) (T.1 (56 + 4 * p)))) (25 + p) 1 (zlower (T.1 (56 + 4 * p)))) (25 + p) 3 (T.1 (58 + 4 * p) + 1), L)) := by
        refine ((zcal_go zp_Player_stakes rfl).trans zb_Player_stakes_0).trans ?_
        simp only [if_true, if_false, Option.bind_some, Option.bind, Option.toList, List.cons_append, List.nil_append, zite0, zite1, zite01, znn, ite_not, true_or, or_true, true_and, and_true, zn10, zn00, l4, q0, q1, es, w1, zw_I, e1, hlo, zb_Player_stakes_57, e3, w3]
      refine ((zcal_go zp_Table_playRound rfl).trans zb_Table_playRound_0).trans ?_
      simp only [if_true, if_false, Option.bind_some, Option.bind, Option.toList, List.cons_append, List.nil_append, zite0, zite1, zite01, znn, ite_not, true_or, or_true, true_and, and_true, zn10, zn00, zk_2 hL, zr_2_7 hL, zc5 hL hp, Int.toNat_natCast, l3, l4, hq, zb_Table_playRound_10, zw_I, e4, w4]
    · refine zTC_set (by omega) ?_
      have a1 := zTC_pl (t := 2) (e := p) (k := 0) (v := T.1 (55 + 4 * p) - zstk (T.1 (55 + 4 * p)) (T.1 (56 + 4 * p))) hp (by omega) h14 hT
      have a2 := zTC_pl (t := 2) (e := p) (k := 1) (v := zlower (T.1 (56 + 4 * p))) hp (by omega) (by exact h14) a1
      have a3 := zTC_pl (t := 2) (e := p) (k := 3) (v := T.1 (58 + 4 * p) + 1) hp (by omega) (by exact h14) a2
      rw [show 55 + 4 * p + 1 = 56 + 4 * p by omega, show 55 + 4 * p + 3 = 58 + 4 * p by omega] at a3
      exact a3
    · exact zkeepX_tr (zkeepX_tr (zkeepX_tr (zkeepX_2 (by omega)) (zkeepX_2 (by omega))) (zkeepX_2 (by omega))) (zkeepX_2 (by omega))
    · rw [zwI_row (by omega), zwI_row (by omega), zwI_row (by omega), zwI_row (by omega)]
  · refine ⟨zwI (zwI (zwI (zwI I (25 + p) 0 (T.1 (55 + 4 * p) + zstk (T.1 (55 + 4 * p)) (T.1 (56 + 4 * p)))) (25 + p) 1 (zraise (T.1 (56 + 4 * p)))) (25 + p) 3 0) 2 3 (T.1 4 - zstk (T.1 (55 + 4 * p)) (T.1 (56 + 4 * p))), ?_, ?_, ?_, fun a ha => ?_⟩
    · have hq : zcal X zP (d + 2) 18 [.inr (.inr (.inl (25 + p))), .inl 1] (I, L) = some (some (.inl (zstk (T.1 (55 + 4 * p)) (T.1 (56 + 4 * p)))), (zwI (zwI (zwI I (25 + p) 0 (T.1 (55 + 4 * p) + zstk (T.1 (55 + 4 * p)) (T.1 (56 + 4 * p)))) (25 + p) 1 (zraise (T.1 (56 + 4 * p)))) (25 + p) 3 0, L)) := by
        refine ((zcal_go zp_Player_stakes rfl).trans zb_Player_stakes_0).trans ?_
        simp only [if_true, if_false, Option.bind_some, Option.bind, Option.toList, List.cons_append, List.nil_append, zite0, zite1, zite01, znn, ite_not, true_or, or_true, true_and, and_true, zn10, zn00, l4, q0, q1, es, w2, zw_I, e1, hra, zb_Player_stakes_47, zb_Player_stakes_57]
      refine ((zcal_go zp_Table_playRound rfl).trans zb_Table_playRound_0).trans ?_
      simp only [if_true, if_false, Option.bind_some, Option.bind, Option.toList, List.cons_append, List.nil_append, zite0, zite1, zite01, znn, ite_not, true_or, or_true, true_and, and_true, zn10, zn00, zk_2 hL, zr_2_7 hL, zc5 hL hp, Int.toNat_natCast, l3, l4, hq, zb_Table_playRound_10, zw_I, e4, w5]
    · refine zTC_set (by omega) ?_
      have a1 := zTC_pl (t := 2) (e := p) (k := 0) (v := T.1 (55 + 4 * p) + zstk (T.1 (55 + 4 * p)) (T.1 (56 + 4 * p))) hp (by omega) h14 hT
      have a2 := zTC_pl (t := 2) (e := p) (k := 1) (v := zraise (T.1 (56 + 4 * p))) hp (by omega) (by exact h14) a1
      have a3 := zTC_pl (t := 2) (e := p) (k := 3) (v := 0) hp (by omega) (by exact h14) a2
      rw [show 55 + 4 * p + 1 = 56 + 4 * p by omega, show 55 + 4 * p + 3 = 58 + 4 * p by omega] at a3
      exact a3
    · exact zkeepX_tr (zkeepX_tr (zkeepX_tr (zkeepX_2 (by omega)) (zkeepX_2 (by omega))) (zkeepX_2 (by omega))) (zkeepX_2 (by omega))
    · rw [zwI_row (by omega), zwI_row (by omega), zwI_row (by omega), zwI_row (by omega)]
theorem zq_M_whoseI (hL : zLay L) {p w : Nat} (hp : p < 4) (hw : w < 4) : zcal X zP (d + 1) 195 [.inr (.inr (.inl 135)), .inl (p : Int), .inl (w : Int)] (I, L) = some (some (.inl (I 136 (55 + 4 * p + w))), (I, L)) := by
  have e : w32 ((w32 (55 + (w32 (4 * (p : Int))))) + (w : Int)) = ((55 + 4 * p + w : Nat) : Int) := by unfold w32; omega
  refine ((zcal_go zp_M_whose rfl).trans zb_M_whose_0).trans ?_
  simp only [if_true, if_false, Option.bind_some, Option.bind, Option.toList, List.cons_append, List.nil_append, zite0, zite1, zite01, znn, ite_not, true_or, or_true, true_and, and_true, zn10, zn00, zk_135 hL, zr_135_0 hL, z6_0 hL, z6_1 hL, z6_2 hL, z6_3 hL, z6_4 hL, e, zd136 hL (show 0 ≤ ((55 + 4 * p + w : Nat) : Int) ∧ ((55 + 4 * p + w : Nat) : Int) < 96 by omega), Int.toNat_natCast]
theorem zq_M_w0 (hL : zLay L) {p : Nat} (hp : p < 4) : zcal X zP (d + 1) 195 [.inr (.inr (.inl 135)), .inl (p : Int), .inl 0] (I, L) = some (some (.inl (I 136 (55 + 4 * p))), (I, L)) := zq_M_whoseI (w := 0) hL hp (by omega)
theorem zq_M_w1 (hL : zLay L) {p : Nat} (hp : p < 4) : zcal X zP (d + 1) 195 [.inr (.inr (.inl 135)), .inl (p : Int), .inl 1] (I, L) = some (some (.inl (I 136 (56 + 4 * p))), (I, L)) := by
  rw [show 56 + 4 * p = 55 + 4 * p + 1 by omega]
  exact zq_M_whoseI (w := 1) hL hp (by omega)
theorem zq_M_w3 (hL : zLay L) {p : Nat} (hp : p < 4) : zcal X zP (d + 1) 195 [.inr (.inr (.inl 135)), .inl (p : Int), .inl 3] (I, L) = some (some (.inl (I 136 (58 + 4 * p))), (I, L)) := by
  rw [show 58 + 4 * p = 55 + 4 * p + 3 by omega]
  exact zq_M_whoseI (w := 3) hL hp (by omega)
theorem zq_M_s0 (hL : zLay L) {p : Nat} {v : Int} (hp : p < 4) : zcal X zP (d + 1) 196 [.inr (.inr (.inl 135)), .inl (p : Int), .inl 0, .inl v] (I, L) = some (none, (zwI I 136 (55 + 4 * p) v, L)) := zq_M_sets (w := 0) hL hp (by omega)
theorem zq_M_s1 (hL : zLay L) {p : Nat} {v : Int} (hp : p < 4) : zcal X zP (d + 1) 196 [.inr (.inr (.inl 135)), .inl (p : Int), .inl 1, .inl v] (I, L) = some (none, (zwI I 136 (56 + 4 * p) v, L)) := by
  rw [show 56 + 4 * p = 55 + 4 * p + 1 by omega]
  exact zq_M_sets (w := 1) hL hp (by omega)
theorem zq_M_s3 (hL : zLay L) {p : Nat} {v : Int} (hp : p < 4) : zcal X zP (d + 1) 196 [.inr (.inr (.inl 135)), .inl (p : Int), .inl 3, .inl v] (I, L) = some (none, (zwI I 136 (58 + 4 * p) v, L)) := by
  rw [show 58 + 4 * p = 55 + 4 * p + 3 by omega]
  exact zq_M_sets (w := 3) hL hp (by omega)
theorem zq_M_aRound (hL : zLay L) (hT : zTM I 136 T) (ho : zTOK n T) (hn : n ≤ 200000) {p : Nat} (hp : p < 4) {w : Int} (hw : w = 0 ∨ w = 1) : ∃ I', zcal X zP (d + 2) 200 [.inr (.inr (.inl 135)), .inl (p : Int), .inl w] (I, L) = some (some (.inl (zstk (T.1 (55 + 4 * p)) (T.1 (56 + 4 * p)))), (I', L)) ∧ zTM I' 136 (zrnd T p w) ∧ ∀ a j, (a ≠ 136 ∨ ¬ (j = 4 ∨ (55 ≤ j ∧ j < 71))) → I' a j = I a j := by
  have q0 : I 136 (55 + 4 * p) = T.1 (55 + 4 * p) := hT.1 _ (by omega)
  have q1 : I 136 (56 + 4 * p) = T.1 (56 + 4 * p) := hT.1 _ (by omega)
  have q3 : I 136 (58 + 4 * p) = T.1 (58 + 4 * p) := hT.1 _ (by omega)
  have qt : I 136 4 = T.1 4 := hT.1 _ (by omega)
  have o8 := ho.2.2.2.2.2.2.2.1 p hp
  have o4 := ho.2.2.2.1
  have hs := zstk_ok o8.1.1 o8.2.1
  have h14 := ho.2.2.2.2.1
  have e3 : ∀ v u, zwI (zwI I 136 (55 + 4 * p) v) 136 (56 + 4 * p) u 136 (58 + 4 * p) = T.1 (58 + 4 * p) := fun v u => (zwI_nej (by omega)).trans ((zwI_nej (by omega)).trans q3)
  have e4 : ∀ v u z, zwI (zwI (zwI I 136 (55 + 4 * p) v) 136 (56 + 4 * p) u) 136 (58 + 4 * p) z 136 4 = T.1 4 := fun v u z => (zwI_nej (by omega)).trans ((zwI_nej (by omega)).trans ((zwI_nej (by omega)).trans qt))
  have w1 : w32 (T.1 (55 + 4 * p) - zstk (T.1 (55 + 4 * p)) (T.1 (56 + 4 * p))) = T.1 (55 + 4 * p) - zstk (T.1 (55 + 4 * p)) (T.1 (56 + 4 * p)) := zw32 (by omega) (by omega)
  have w2 : w32 (T.1 (55 + 4 * p) + zstk (T.1 (55 + 4 * p)) (T.1 (56 + 4 * p))) = T.1 (55 + 4 * p) + zstk (T.1 (55 + 4 * p)) (T.1 (56 + 4 * p)) := zw32 (by omega) (by omega)
  have w3 : w32 (T.1 (58 + 4 * p) + 1) = T.1 (58 + 4 * p) + 1 := zw32 (by omega) (by omega)
  have w4 : w32 (T.1 4 + zstk (T.1 (55 + 4 * p)) (T.1 (56 + 4 * p))) = T.1 4 + zstk (T.1 (55 + 4 * p)) (T.1 (56 + 4 * p)) := zw32 (by omega) (by omega)
  have w5 : w32 (T.1 4 - zstk (T.1 (55 + 4 * p)) (T.1 (56 + 4 * p))) = T.1 4 - zstk (T.1 (55 + 4 * p)) (T.1 (56 + 4 * p)) := zw32 (by omega) (by omega)
  have w6 : w32 (2 * T.1 (56 + 4 * p)) = 2 * T.1 (56 + 4 * p) := zw32 (by omega) (by omega)
  have w7 : w32 (Int.tdiv (T.1 (56 + 4 * p)) 2) = Int.tdiv (T.1 (56 + 4 * p)) 2 := by
    have := ztdiv2 (st := T.1 (56 + 4 * p)) (by omega)
    exact zw32 (by omega) (by omega)
  have es1 : T.1 (56 + 4 * p) < T.1 (55 + 4 * p) → zstk (T.1 (55 + 4 * p)) (T.1 (56 + 4 * p)) = T.1 (56 + 4 * p) := fun h => if_neg (by omega)
  have es2 : ¬ T.1 (56 + 4 * p) < T.1 (55 + 4 * p) → zstk (T.1 (55 + 4 * p)) (T.1 (56 + 4 * p)) = T.1 (55 + 4 * p) := by
    intro h
    unfold zstk
    split <;> omega
  have hst : ∀ w' : Int, zcal X zP (d + 2) 200 [.inr (.inr (.inl 135)), .inl (p : Int), .inl w'] (I, L) = zgo X (zcal X zP (d + 1)) zc_M_aRound 27 [some (.inr (.inr (.inl 135))), some (.inl (p : Int)), some (.inl w'), some (.inl (T.1 (56 + 4 * p))), none] [.inl (zstk (T.1 (55 + 4 * p)) (T.1 (56 + 4 * p)))] (I, L) := by
    intro w'
    refine ((zcal_go zp_M_aRound rfl).trans zb_M_aRound_0).trans ?_
    by_cases c : T.1 (56 + 4 * p) < T.1 (55 + 4 * p)
    · simp only [if_true, if_false, Option.bind_some, Option.bind, Option.toList, List.cons_append, List.nil_append, zite0, zite1, zite01, znn, ite_not, true_or, or_true, true_and, and_true, zn10, zn00, zk_135 hL, zr_135_0 hL, z6_0 hL, z6_1 hL, z6_2 hL, z6_3 hL, z6_4 hL, zq_M_w1 hL hp, zq_M_w0 hL hp, q0, q1, zb_M_aRound_6, zb_M_aRound_14, eq_true c, es1 c]
    · simp only [if_true, if_false, Option.bind_some, Option.bind, Option.toList, List.cons_append, List.nil_append, zite0, zite1, zite01, znn, ite_not, true_or, or_true, true_and, and_true, zn10, zn00, zk_135 hL, zr_135_0 hL, z6_0 hL, z6_1 hL, z6_2 hL, z6_3 hL, z6_4 hL, zq_M_w1 hL hp, zq_M_w0 hL hp, q0, q1, zb_M_aRound_6, zb_M_aRound_14, eq_false c, es2 c]
  rcases hw with rfl | rfl
  · refine ⟨zwI (zwI (zwI (zwI I 136 (55 + 4 * p) (T.1 (55 + 4 * p) - zstk (T.1 (55 + 4 * p)) (T.1 (56 + 4 * p)))) 136 (56 + 4 * p) (zlower (T.1 (56 + 4 * p)))) 136 (58 + 4 * p) (T.1 (58 + 4 * p) + 1)) 136 4 (T.1 4 + zstk (T.1 (55 + 4 * p)) (T.1 (56 + 4 * p))), ?_, ?_, fun a j h => ?_⟩
    · rw [hst 0]
      by_cases c : Int.tdiv (T.1 (56 + 4 * p)) 2 < 1
      · have ez : zlower (T.1 (56 + 4 * p)) = 1 := if_pos c
        rw [zb_M_aRound_27, ez]
        simp only [if_true, if_false, Option.bind_some, Option.bind, Option.toList, List.cons_append, List.nil_append, zite0, zite1, zite01, znn, ite_not, true_or, or_true, true_and, and_true, zn10, zn00, zk_135 hL, zr_135_0 hL, z6_0 hL, z6_1 hL, z6_2 hL, z6_3 hL, z6_4 hL, zq_M_w0 hL hp, zq_M_w3 hL hp, zq_M_s0 hL hp, zq_M_s1 hL hp, zq_M_s3 hL hp, q0, w1, zb_M_aRound_100, zb_M_aRound_106, w7, eq_true c, zb_M_aRound_126, e3, w3, zb_M_aRound_135, zb_M_aRound_140, e4, w4, zw_I]
      · have ez : zlower (T.1 (56 + 4 * p)) = Int.tdiv (T.1 (56 + 4 * p)) 2 := if_neg c
        rw [zb_M_aRound_27, ez]
        simp only [if_true, if_false, Option.bind_some, Option.bind, Option.toList, List.cons_append, List.nil_append, zite0, zite1, zite01, znn, ite_not, true_or, or_true, true_and, and_true, zn10, zn00, zk_135 hL, zr_135_0 hL, z6_0 hL, z6_1 hL, z6_2 hL, z6_3 hL, z6_4 hL, zq_M_w0 hL hp, zq_M_w3 hL hp, zq_M_s0 hL hp, zq_M_s1 hL hp, zq_M_s3 hL hp, q0, w1, zb_M_aRound_100, zb_M_aRound_106, w7, eq_false c, zb_M_aRound_126, e3, w3, zb_M_aRound_135, zb_M_aRound_140, e4, w4, zw_I]
    · exact zTM_set (by omega) (by exact h14) (zTM_set (by omega) (by exact h14) (zTM_set (by omega) (by exact h14) (zTM_set (by omega) h14 hT)))
    · rw [zwI_if, if_neg (by omega), zwI_if, if_neg (by omega), zwI_if, if_neg (by omega), zwI_if, if_neg (by omega)]
  · refine ⟨zwI (zwI (zwI (zwI I 136 (55 + 4 * p) (T.1 (55 + 4 * p) + zstk (T.1 (55 + 4 * p)) (T.1 (56 + 4 * p)))) 136 (56 + 4 * p) (zraise (T.1 (56 + 4 * p)))) 136 (58 + 4 * p) 0) 136 4 (T.1 4 - zstk (T.1 (55 + 4 * p)) (T.1 (56 + 4 * p))), ?_, ?_, fun a j h => ?_⟩
    · rw [hst 1]
      by_cases c : 99 < 2 * T.1 (56 + 4 * p)
      · have ez : zraise (T.1 (56 + 4 * p)) = 99 := if_pos c
        rw [zb_M_aRound_27, ez]
        simp only [if_true, if_false, Option.bind_some, Option.bind, Option.toList, List.cons_append, List.nil_append, zite0, zite1, zite01, znn, ite_not, true_or, or_true, true_and, and_true, zn10, zn00, zk_135 hL, zr_135_0 hL, z6_0 hL, z6_1 hL, z6_2 hL, z6_3 hL, z6_4 hL, zq_M_w0 hL hp, zq_M_w3 hL hp, zq_M_s0 hL hp, zq_M_s1 hL hp, zq_M_s3 hL hp, q0, w2, zb_M_aRound_42, zb_M_aRound_48, w6, eq_true c, zb_M_aRound_70, zb_M_aRound_77, e4, w5, zw_I]
      · have ez : zraise (T.1 (56 + 4 * p)) = 2 * T.1 (56 + 4 * p) := if_neg c
        rw [zb_M_aRound_27, ez]
        simp only [if_true, if_false, Option.bind_some, Option.bind, Option.toList, List.cons_append, List.nil_append, zite0, zite1, zite01, znn, ite_not, true_or, or_true, true_and, and_true, zn10, zn00, zk_135 hL, zr_135_0 hL, z6_0 hL, z6_1 hL, z6_2 hL, z6_3 hL, z6_4 hL, zq_M_w0 hL hp, zq_M_w3 hL hp, zq_M_s0 hL hp, zq_M_s1 hL hp, zq_M_s3 hL hp, q0, w2, zb_M_aRound_42, zb_M_aRound_48, w6, eq_false c, zb_M_aRound_70, zb_M_aRound_77, e4, w5, zw_I]
    · exact zTM_set (by omega) (by exact h14) (zTM_set (by omega) (by exact h14) (zTM_set (by omega) (by exact h14) (zTM_set (by omega) h14 hT)))
    · rw [zwI_if, if_neg (by omega), zwI_if, if_neg (by omega), zwI_if, if_neg (by omega), zwI_if, if_neg (by omega)]
def zleft (T : zTb) (p : Nat) : Int := zgone (T.1 (55 + 4 * p)) (T.1 (55 + 4 * p + 3)) (T.1 (55 + 4 * p + 2))
theorem zleft01 {T : zTb} {p : Nat} : zleft T p = 0 ∨ zleft T p = 1 := of_eq_true zgone01
theorem zq_X_left (hL : zLay L) (hT : zTC I 2 T) {p : Nat} (hp : p < 4) : zcal X zP (d + 2) 17 [.inr (.inr (.inl (25 + p)))] (I, L) = some (some (.inl (zleft T p)), (I, L)) := by
  have h8 := hT.2.2.2.2.2.2.2.1
  have hq := zq_Player_hasLeft (X := X) (d := d) (σ := (I, L)) (p := 25 + p) (zpl hL hp).2
  have q0 : (I, L).1 (25 + p) 0 = T.1 (55 + 4 * p) := h8 p 0 hp (by omega)
  have q2 : (I, L).1 (25 + p) 2 = T.1 (55 + 4 * p + 2) := h8 p 2 hp (by omega)
  have q3 : (I, L).1 (25 + p) 3 = T.1 (55 + 4 * p + 3) := h8 p 3 hp (by omega)
  rw [q0, q2, q3] at hq
  exact hq
def zr_round (S : zSt) (p w : Int) : zV × zSt := if (0 ≤ p ∧ p ≤ 3) ∧ (0 ≤ w ∧ w ≤ 1) then (if zleft S.1 p.toNat = 0 then (.inl (zstk (S.1.1 (55 + 4 * p.toNat)) (S.1.1 (56 + 4 * p.toNat))), zS1 S (zrnd S.1 p.toNat w)) else (.inl (-1000005), zSf S 4)) else (.inl (-1000001), zSf S 0)
theorem zx_round (hL : zLay L) (ho : zSOK n S) (hn : n < 100000) {p w : Int} : zHX X L (d + 4) 97 [.inl p, .inl w] S (zr_round S p w) := by
  intro I hr
  have hb := zq_X_isPlayer (X := X) (d := d + 1) (σ := (I, L)) (v := p)
  have hc := zq_X_within (X := X) (d := d + 2) (σ := (I, L)) (v := w) (a := 0) (b := 1)
  unfold zr_round
  by_cases hp : 0 ≤ p ∧ p ≤ 3
  · rw [if_pos hp] at hb
    by_cases hw : 0 ≤ w ∧ w ≤ 1
    · rw [if_pos hw] at hc
      rw [if_pos ⟨hp, hw⟩]
      obtain ⟨m, rfl⟩ := Int.eq_ofNat_of_zero_le hp.1
      rw [Int.toNat_natCast]
      obtain ⟨l3, l4⟩ := zpl hL (show m < 4 by omega)
      have hq := zq_X_left (X := X) (d := d + 1) hL hr.1 (show m < 4 by omega)
      by_cases hg : zleft S.1 m = 0
      · rw [if_pos hg]
        rw [hg] at hq
        obtain ⟨I', q1, q2, q3, q4⟩ := zq_playRound (X := X) (d := d) hL hr.1 ho.1 (by omega) (show m < 4 by omega) (show w = 0 ∨ w = 1 by omega)
        refine ⟨I', ?_, zRX_T ho q3 q2 hr, q4⟩
        refine ((zcal_go zp_X_round rfl).trans zb_X_round_0).trans ?_
        rcases (show w = 0 ∨ w = 1 by omega) with rfl | rfl
        · simp only [if_true, if_false, Option.bind_some, Option.bind, Option.toList, List.cons_append, List.nil_append, zite0, zite1, zite01, znn, ite_not, true_or, or_true, true_and, and_true, zn10, zn00, zk_1 hL, zr_1_0 hL, zk_2 hL, hb, hc, zb_X_round_4, zb_X_round_13, zb_X_round_22, zb_X_round_35, zb_X_round_44, zb_X_round_63, zr_2_7 hL, zc5 hL (show m < 4 by omega), Int.toNat_natCast, l3, l4, hq, eq_false (show ¬ (0 : Int) = 1 by decide), q1]
        · simp only [if_true, if_false, Option.bind_some, Option.bind, Option.toList, List.cons_append, List.nil_append, zite0, zite1, zite01, znn, ite_not, true_or, or_true, true_and, and_true, zn10, zn00, zk_1 hL, zr_1_0 hL, zk_2 hL, hb, hc, zb_X_round_4, zb_X_round_13, zb_X_round_22, zb_X_round_35, zb_X_round_44, zb_X_round_63, zr_2_7 hL, zc5 hL (show m < 4 by omega), Int.toNat_natCast, l3, l4, hq, q1]
      · rw [if_neg hg]
        rw [zleft01.resolve_left hg] at hq
        obtain ⟨I', h1, h2, h3⟩ := zX_tellc (X := X) (d := d + 2) (k := 4) (c := -1000005) hL ho (by omega) (by omega) hr
        refine ⟨I', ?_, h2, h3⟩
        refine ((zcal_go zp_X_round rfl).trans zb_X_round_0).trans ?_
        simp only [if_true, if_false, Option.bind_some, Option.bind, Option.toList, List.cons_append, List.nil_append, zite0, zite1, zite01, znn, ite_not, true_or, or_true, true_and, and_true, zn10, zn00, zk_1 hL, zr_1_0 hL, zk_2 hL, hb, hc, zb_X_round_4, zb_X_round_13, zb_X_round_22, zb_X_round_35, zb_X_round_44, zb_X_round_63, zr_2_7 hL, zc5 hL (show m < 4 by omega), Int.toNat_natCast, l3, l4, hq, h1]
    · rw [if_neg hw] at hc
      rw [if_neg (fun h => hw h.2)]
      obtain ⟨I', h1, h2, h3⟩ := zX_tellc (X := X) (d := d + 2) (k := 0) (c := -1000001) hL ho (by omega) (by omega) hr
      refine ⟨I', ?_, h2, h3⟩
      refine ((zcal_go zp_X_round rfl).trans zb_X_round_0).trans ?_
      simp only [if_true, if_false, Option.bind_some, Option.bind, Option.toList, List.cons_append, List.nil_append, zite0, zite1, zite01, znn, ite_not, true_or, or_true, true_and, and_true, zn10, zn00, zk_1 hL, zr_1_0 hL, zk_2 hL, hb, hc, zb_X_round_4, zb_X_round_13, zb_X_round_22, zb_X_round_35, zb_X_round_44, zb_X_round_63, h1]
  · rw [if_neg hp] at hb
    rw [if_neg (fun h => hp h.1)]
    obtain ⟨I', h1, h2, h3⟩ := zX_tellc (X := X) (d := d + 2) (k := 0) (c := -1000001) hL ho (by omega) (by omega) hr
    refine ⟨I', ?_, h2, h3⟩
    refine ((zcal_go zp_X_round rfl).trans zb_X_round_0).trans ?_
    simp only [if_true, if_false, Option.bind_some, Option.bind, Option.toList, List.cons_append, List.nil_append, zite0, zite1, zite01, znn, ite_not, true_or, or_true, true_and, and_true, zn10, zn00, zk_1 hL, zr_1_0 hL, zk_2 hL, hb, zb_X_round_4, zb_X_round_13, zb_X_round_22, zb_X_round_35, zb_X_round_44, zb_X_round_63, h1]
theorem zm_round (hL : zLay L) (ho : zSOK n S) (hn : n < 100000) {p w : Int} : zHM X L (d + 3) 201 [.inl p, .inl w] S (zr_round S p w) := by
  intro I hr
  have hb := zq_M_isFour (X := X) (d := d) (σ := (I, L)) (v := p)
  have hc := zq_M_in (X := X) (d := d + 1) (σ := (I, L)) (v := w) (a := 0) (b := 1)
  unfold zr_round
  by_cases hp : 0 ≤ p ∧ p ≤ 3
  · rw [if_pos hp] at hb
    by_cases hw : 0 ≤ w ∧ w ≤ 1
    · rw [if_pos hw] at hc
      rw [if_pos ⟨hp, hw⟩]
      obtain ⟨m, rfl⟩ := Int.eq_ofNat_of_zero_le hp.1
      rw [Int.toNat_natCast]
      have hq : _ = some (some (Sum.inl (zleft S.1 m)), (I, L)) := zq_M_hasLeft (X := X) (d := d) hL ho hr (show m < 4 by omega)
      by_cases hg : zleft S.1 m = 0
      · rw [if_pos hg]
        rw [hg] at hq
        obtain ⟨I', q1, q2, q3⟩ := zq_M_aRound (X := X) (d := d) hL hr.1 ho.1 (by omega) (show m < 4 by omega) (show w = 0 ∨ w = 1 by omega)
        refine ⟨I', ?_, zRM_T ⟨q3 _ _ (by omega), q3 _ _ (by omega), funext fun j => q3 _ _ (by omega), funext fun j => q3 _ _ (by omega), funext fun j => q3 _ _ (by omega), funext fun j => q3 _ _ (by omega), funext fun j => q3 _ _ (by omega), funext fun j => q3 _ _ (by omega)⟩ q2 hr, fun a ha => funext fun j => q3 _ _ (by omega)⟩
        refine ((zcal_go zp_M_round rfl).trans zb_M_round_0).trans ?_
        rcases (show w = 0 ∨ w = 1 by omega) with rfl | rfl
        · simp only [if_true, if_false, Option.bind_some, Option.bind, Option.toList, List.cons_append, List.nil_append, zite0, zite1, zite01, znn, ite_not, true_or, or_true, true_and, and_true, zn10, zn00, zk_135 hL, zr_135_0 hL, z6_0 hL, z6_1 hL, z6_2 hL, z6_3 hL, z6_4 hL, hb, hc, zb_M_round_4, zb_M_round_14, zb_M_round_22, zb_M_round_28, zb_M_round_36, zb_M_round_54, hq, eq_false (show ¬ (0 : Int) = 1 by decide), q1]
        · simp only [if_true, if_false, Option.bind_some, Option.bind, Option.toList, List.cons_append, List.nil_append, zite0, zite1, zite01, znn, ite_not, true_or, or_true, true_and, and_true, zn10, zn00, zk_135 hL, zr_135_0 hL, z6_0 hL, z6_1 hL, z6_2 hL, z6_3 hL, z6_4 hL, hb, hc, zb_M_round_4, zb_M_round_14, zb_M_round_22, zb_M_round_28, zb_M_round_36, zb_M_round_54, hq, q1]
      · rw [if_neg hg]
        rw [zleft01.resolve_left hg] at hq
        obtain ⟨I', h1, h2, h3⟩ := zM_findsc (X := X) (d := d + 1) (k := 4) (c := -1000005) (k' := 4) hL ho (by omega) (by omega) (by omega) hr
        refine ⟨I', ?_, h2, h3⟩
        refine ((zcal_go zp_M_round rfl).trans zb_M_round_0).trans ?_
        simp only [if_true, if_false, Option.bind_some, Option.bind, Option.toList, List.cons_append, List.nil_append, zite0, zite1, zite01, znn, ite_not, true_or, or_true, true_and, and_true, zn10, zn00, zk_135 hL, zr_135_0 hL, z6_0 hL, z6_1 hL, z6_2 hL, z6_3 hL, z6_4 hL, hb, hc, zb_M_round_4, zb_M_round_14, zb_M_round_22, zb_M_round_28, zb_M_round_36, zb_M_round_54, hq, h1]
    · rw [if_neg hw] at hc
      rw [if_neg (fun h => hw h.2)]
      obtain ⟨I', h1, h2, h3⟩ := zM_findsc (X := X) (d := d + 1) (k := 0) (c := -1000001) (k' := 0) hL ho (by omega) (by omega) (by omega) hr
      refine ⟨I', ?_, h2, h3⟩
      refine ((zcal_go zp_M_round rfl).trans zb_M_round_0).trans ?_
      simp only [if_true, if_false, Option.bind_some, Option.bind, Option.toList, List.cons_append, List.nil_append, zite0, zite1, zite01, znn, ite_not, true_or, or_true, true_and, and_true, zn10, zn00, zk_135 hL, zr_135_0 hL, z6_0 hL, z6_1 hL, z6_2 hL, z6_3 hL, z6_4 hL, hb, hc, zb_M_round_4, zb_M_round_14, zb_M_round_22, zb_M_round_28, zb_M_round_36, zb_M_round_54, h1]
  · rw [if_neg hp] at hb
    rw [if_neg (fun h => hp h.1)]
    obtain ⟨I', h1, h2, h3⟩ := zM_findsc (X := X) (d := d + 1) (k := 0) (c := -1000001) (k' := 0) hL ho (by omega) (by omega) (by omega) hr
    refine ⟨I', ?_, h2, h3⟩
    refine ((zcal_go zp_M_round rfl).trans zb_M_round_0).trans ?_
    simp only [if_true, if_false, Option.bind_some, Option.bind, Option.toList, List.cons_append, List.nil_append, zite0, zite1, zite01, znn, ite_not, true_or, or_true, true_and, and_true, zn10, zn00, zk_135 hL, zr_135_0 hL, z6_0 hL, z6_1 hL, z6_2 hL, z6_3 hL, z6_4 hL, hb, zb_M_round_4, zb_M_round_14, zb_M_round_22, zb_M_round_28, zb_M_round_36, zb_M_round_54, h1]
theorem zo_round (ho : zSOK n S) (hn : n < 100000) {p w : Int} : zSOK (n + 1) (zr_round S p w).2 := by
  unfold zr_round
  split
  · next h =>
    split
    · exact ⟨zTOK_rnd (by omega) ho.1, (zSOK_up ho hn).2⟩
    · exact zSOK_f ho (by omega) hn
  · exact zSOK_f ho (by omega) hn
theorem zA27 (hL : zLay L) : zA_27 X L := fun n a1 a2 _ _ S ho hn => zCI (zr_round S a1 a2) (by unfold zr_round; repeat' (first | exact ⟨_, rfl⟩ | refine zif1 ?_ ?_)) (zx_round (d := 36) hL ho hn) (zm_round (d := 37) hL ho hn) (zo_round ho hn)
end
