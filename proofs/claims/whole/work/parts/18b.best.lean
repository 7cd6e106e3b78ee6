/-! CONTRACTS OF CALLS: best, should, richest: the class's half. -/
section
variable {X : zX} {C : zC} {d n : Nat} {L : zLt} {S : zSt} {T : zTb} {I : Nat → Nat → Int}
def zpq (T : zTb) (p : Nat) : zPl := (T.1 (55 + 4 * p), (T.1 (56 + 4 * p), T.1 (58 + 4 * p)))
theorem zpq_ok {p : Nat} (ho : zTOK n T) (hp : p < 4) : zqok (10000 + 200 * n) (zpq T p) := by
  have h := ho.2.2.2.2.2.2.2.1 p hp
  obtain ⟨a, b, c, e, f⟩ := h
  exact ⟨a, b, e, by show T.1 (58 + 4 * p) ≤ _; omega⟩
theorem zq_raised {σ : zMem} {st : Int} (h : 1 ≤ st ∧ st ≤ 99) : zcal X zP (d + 1) 21 [.inl st] σ = some (some (.inl (zraise st)), σ) := by
  refine ((zcal_go zp_Player_raised rfl).trans zb_Player_raised_0).trans ?_
  rw [zw32 (by omega) (by omega)]
  rfl
theorem zq_lowered {σ : zMem} {st : Int} (h : 1 ≤ st ∧ st ≤ 99) : zcal X zP (d + 1) 22 [.inl st] σ = some (some (.inl (zlower st)), σ) := by
  refine ((zcal_go zp_Player_lowered rfl).trans zb_Player_lowered_0).trans ?_
  have := ztdiv2 (st := st) (by omega)
  rw [zw32 (by omega) (by omega)]
  rfl
theorem zwi1 {m : Nat} (h : m < 1000) : w32 (((m + 1 : Nat) : Int) - 1) = (m : Int) := by unfold w32; omega
theorem zq_winF {σ : zMem} {m : Nat} {B be : Int} {q : zPl} (hq : zqok B q) (hB : B ≤ 2000000000) (hm : m < 1000) (h : zcal X zP (d + 1) 23 [.inl (znx 1 q).1, .inl (znx 1 q).2.1, .inl (znx 1 q).2.2, .inl be, .inl (m : Int)] σ = some (some (.inl (zmo be m (znx 1 q))), σ)) : zcal X zP (d + 2) 24 [.inl q.1, .inl q.2.1, .inl be, .inl ((m + 1 : Nat) : Int)] σ = some (some (.inl (zmo be m (znx 1 q) + zdl 1 q)), σ) := by
  have hs := zstk_ok hq.1.1 hq.2.1
  have hl := zmo_le (be := be) m _ _ (znx_ok (w := 1) hq)
  have hn := zmo_nn (be := be) (q := znx 1 q) m
  have hr := zq_raised (X := X) (d := d) (σ := σ) hq.2.1
  have es : (if q.1 < q.2.1 then q.1 else q.2.1) = zstk q.1 q.2.1 := rfl
  have h1 : 0 ≤ q.1 ∧ q.1 ≤ B := hq.1
  have ea : w32 (q.1 + zstk q.1 q.2.1) = (znx 1 q).1 := zw32 (by omega) (by omega)
  have eb : zraise q.2.1 = (znx 1 q).2.1 := rfl
  have ec : (0 : Int) = (znx 1 q).2.2 := rfl
  have ed : w32 (zmo be m (znx 1 q) - zstk q.1 q.2.1) = zmo be m (znx 1 q) + zdl 1 q := by
    show _ = zmo be m (znx 1 q) + (- zstk q.1 q.2.1)
    rw [zw32 (by omega) (by omega)]
    omega
  have h : zcal X zP (d + 1) 23 [.inl (znx 1 q).1, .inl (znx 1 q).2.1, .inl 0, .inl be, .inl (m : Int)] σ = some (some (.inl (zmo be m (znx 1 q))), σ) := h
  rw [eb] at hr
  refine ((zcal_go zp_Player_winningFirst rfl).trans zb_Player_winningFirst_0).trans ?_
  simp only [if_true, if_false, Option.bind_some, Option.bind, Option.toList, List.cons_append, List.nil_append, zite0, zite1, zite01, znn, ite_not, true_or, or_true, true_and, and_true, zn10, zn00, hr, es, ea, zb_Player_winningFirst_15, zwi1 hm, h, zb_Player_winningFirst_23, ed]
theorem zq_losF {σ : zMem} {m : Nat} {B be : Int} {q : zPl} (hq : zqok B q) (hB : B ≤ 2000000000) (hm : m < 1000) (h : zcal X zP (d + 1) 23 [.inl (znx 0 q).1, .inl (znx 0 q).2.1, .inl (znx 0 q).2.2, .inl be, .inl (m : Int)] σ = some (some (.inl (zmo be m (znx 0 q))), σ)) : zcal X zP (d + 2) 25 [.inl q.1, .inl q.2.1, .inl q.2.2, .inl be, .inl ((m + 1 : Nat) : Int)] σ = some (some (.inl (zmo be m (znx 0 q) + zdl 0 q)), σ) := by
  have hs := zstk_ok hq.1.1 hq.2.1
  have hl := zmo_le (be := be) m _ _ (znx_ok (w := 0) hq)
  have hn := zmo_nn (be := be) (q := znx 0 q) m
  have hr := zq_lowered (X := X) (d := d) (σ := σ) hq.2.1
  have es : (if q.1 < q.2.1 then q.1 else q.2.1) = zstk q.1 q.2.1 := rfl
  have h1 : 0 ≤ q.1 ∧ q.1 ≤ B := hq.1
  have h2 : 0 ≤ q.2.2 ∧ q.2.2 ≤ B := hq.2.2
  have ea : w32 (q.1 - zstk q.1 q.2.1) = (znx 0 q).1 := zw32 (by omega) (by omega)
  have eb : zlower q.2.1 = (znx 0 q).2.1 := rfl
  have ec : w32 (q.2.2 + 1) = (znx 0 q).2.2 := zw32 (by omega) (by omega)
  have ed : w32 (zmo be m (znx 0 q) + zstk q.1 q.2.1) = zmo be m (znx 0 q) + zdl 0 q := zw32 (by omega) (by omega)
  rw [eb] at hr
  refine ((zcal_go zp_Player_losingFirst rfl).trans zb_Player_losingFirst_0).trans ?_
  simp only [if_true, if_false, Option.bind_some, Option.bind, Option.toList, List.cons_append, List.nil_append, zite0, zite1, zite01, znn, ite_not, true_or, or_true, true_and, and_true, zn10, zn00, hr, es, ea, zb_Player_losingFirst_15, ec, zwi1 hm, h, zb_Player_losingFirst_26, ed]
theorem zq_mostOf {σ : zMem} {be : Int} : ∀ (m : Nat) (B : Int) (q : zPl), m < 1000 → zqok B q → B + 99 * (m : Int) ≤ 2000000000 → zcal X zP (d + 2 * m + 3) 23 [.inl q.1, .inl q.2.1, .inl q.2.2, .inl be, .inl (m : Int)] σ = some (some (.inl (zmo be m q)), σ) := by
  intro m
  induction m with
  | zero =>
    intro B q _ _ _
    refine ((zcal_go zp_Player_mostOf rfl).trans zb_Player_mostOf_0).trans ?_
    rw [if_neg (by omega)]
    rfl
  | succ m ih =>
    intro B q hm hq hB
    have h1 := ih (B + 99) (znx 1 q) (by omega) (znx_ok hq) (by omega)
    have h0 := ih (B + 99) (znx 0 q) (by omega) (znx_ok hq) (by omega)
    have hw := zq_winF (X := X) (d := d + 2 * m + 2) (σ := σ) (be := be) hq (by omega) (by omega) h1
    have hl := zq_losF (X := X) (d := d + 2 * m + 2) (σ := σ) (be := be) hq (by omega) (by omega) h0
    have hg := zq_Player_isGone (X := X) (d := d + 2 * m + 3) (σ := σ) (a := q.1) (b := q.2.2) (c := be)
    have hg : _ = some (some (Sum.inl (zgn be q)), σ) := hg
    have hp : (0 : Int) < ((m + 1 : Nat) : Int) := by omega
    rw [show d + 2 * (m + 1) + 3 = (d + 2 * m + 4) + 1 by omega, zmo_s]
    refine ((zcal_go zp_Player_mostOf rfl).trans zb_Player_mostOf_0).trans ?_
    rw [if_pos hp]
    by_cases c : zgn be q = 0
    · rw [if_pos c]
      simp only [if_true, if_false, Option.bind_some, Option.bind, Option.toList, List.cons_append, List.nil_append, zite0, zite1, zite01, znn, ite_not, true_or, or_true, true_and, and_true, zn10, zn00, hg, zb_Player_mostOf_11, eq_true c, hw, zb_Player_mostOf_24, hl, zb_Player_mostOf_35]
      try rfl
    · rw [if_neg c]
      simp only [if_true, if_false, Option.bind_some, Option.bind, Option.toList, List.cons_append, List.nil_append, zite0, zite1, zite01, znn, ite_not, true_or, or_true, true_and, and_true, zn10, zn00, hg, zb_Player_mostOf_11, eq_false c]
theorem zx_pl4 (hT : zTC I 2 T) {p : Nat} (hp : p < 4) : I (25 + p) 0 = (zpq T p).1 ∧ I (25 + p) 1 = (zpq T p).2.1 ∧ I (25 + p) 2 = T.1 (57 + 4 * p) ∧ I (25 + p) 3 = (zpq T p).2.2 := by
  have h8 := hT.2.2.2.2.2.2.2.1
  refine ⟨h8 p 0 hp (by omega), ?_, ?_, ?_⟩
  · have := h8 p 1 hp (by omega)
    rw [show 55 + 4 * p + 1 = 56 + 4 * p by omega] at this
    exact this
  · have := h8 p 2 hp (by omega)
    rw [show 55 + 4 * p + 2 = 57 + 4 * p by omega] at this
    exact this
  · have := h8 p 3 hp (by omega)
    rw [show 55 + 4 * p + 3 = 58 + 4 * p by omega] at this
    exact this
theorem zq_brings (hL : zLay L) (hT : zTC I 2 T) (ho : zTOK n T) (hn : n ≤ 200000) {p m : Nat} (hp : p < 4) (hm : m ≤ 10) : zcal X zP (d + 2 * m + 4) 19 [.inr (.inr (.inl (25 + p))), .inl (m : Int)] (I, L) = some (some (.inl (zmo (T.1 (57 + 4 * p)) m (zpq T p))), (I, L)) := by
  obtain ⟨l3, l4⟩ := zpl hL hp
  obtain ⟨e0, e1, e2, e3⟩ := zx_pl4 hT hp
  have hq := zq_mostOf (X := X) (d := d) (σ := (I, L)) (be := T.1 (57 + 4 * p)) m _ _ (by omega) (zpq_ok ho hp) (by omega)
  refine ((zcal_go zp_Player_brings rfl).trans zb_Player_brings_0).trans ?_
  simp only [if_true, if_false, Option.bind_some, Option.bind, Option.toList, List.cons_append, List.nil_append, zite0, zite1, zite01, znn, ite_not, true_or, or_true, true_and, and_true, zn10, zn00, l4, e0, e1, e2, e3, hq, zb_Player_brings_20]
def zbe (T : zTb) (p m : Nat) : Int := zmo (T.1 (57 + 4 * p)) m (zpq T p)
def zr_best (S : zSt) (p m : Int) : zV × zSt := if (0 ≤ p ∧ p ≤ 3) ∧ (1 ≤ m ∧ m ≤ 10) then (.inl (zbe S.1 p.toNat m.toNat), S) else (.inl (-1000001), zSf S 0)
theorem zx_best (hL : zLay L) (ho : zSOK n S) (hn : n < 100000) {p m : Int} : zHX X L (d + 25) 99 [.inl p, .inl m] S (zr_best S p m) := by
  intro I hr
  have hb := zq_X_isPlayer (X := X) (d := d + 22) (σ := (I, L)) (v := p)
  have hc := zq_X_isRounds (X := X) (d := d + 22) (σ := (I, L)) (v := m)
  obtain ⟨J, h1, h2, h3⟩ := zX_tellc (X := X) (d := d + 23) (k := 0) (c := -1000001) hL ho (by omega) (by omega) hr
  unfold zr_best
  by_cases hp : 0 ≤ p ∧ p ≤ 3
  · rw [if_pos hp] at hb
    by_cases hm : 1 ≤ m ∧ m ≤ 10
    · rw [if_pos hm] at hc
      rw [if_pos ⟨hp, hm⟩]
      obtain ⟨p, rfl⟩ := Int.eq_ofNat_of_zero_le hp.1
      obtain ⟨m, rfl⟩ := Int.eq_ofNat_of_zero_le (show 0 ≤ m by omega)
      rw [Int.toNat_natCast, Int.toNat_natCast]
      obtain ⟨l3, l4⟩ := zpl hL (show p < 4 by omega)
      have hq := zq_brings (X := X) (d := d + 20 - 2 * m) hL hr.1 ho.1 (by omega) (show p < 4 by omega) (show m ≤ 10 by omega)
      rw [show d + 20 - 2 * m + 2 * m + 4 = d + 24 by omega] at hq
      refine ⟨I, ?_, hr, fun _ _ => rfl⟩
      refine ((zcal_go zp_X_best rfl).trans zb_X_best_0).trans ?_
      simp only [if_true, if_false, Option.bind_some, Option.bind, Option.toList, List.cons_append, List.nil_append, zite0, zite1, zite01, znn, ite_not, true_or, or_true, true_and, and_true, zn10, zn00, zk_1 hL, zr_1_0 hL, zk_2 hL, hb, hc, zb_X_best_4, zb_X_best_11, zr_2_7 hL, zc5 hL (show p < 4 by omega), Int.toNat_natCast, l3, l4, hq, zb_X_best_34]
      try rfl
    · rw [if_neg hm] at hc
      rw [if_neg (fun h => hm h.2)]
      refine ⟨J, ?_, h2, h3⟩
      refine ((zcal_go zp_X_best rfl).trans zb_X_best_0).trans ?_
      simp only [if_true, if_false, Option.bind_some, Option.bind, Option.toList, List.cons_append, List.nil_append, zite0, zite1, zite01, znn, ite_not, true_or, or_true, true_and, and_true, zn10, zn00, zk_1 hL, zr_1_0 hL, zk_2 hL, hb, hc, zb_X_best_4, zb_X_best_11, h1, zb_X_best_20]
  · rw [if_neg hp] at hb
    rw [if_neg (fun h => hp h.1)]
    refine ⟨J, ?_, h2, h3⟩
    refine ((zcal_go zp_X_best rfl).trans zb_X_best_0).trans ?_
    simp only [if_true, if_false, Option.bind_some, Option.bind, Option.toList, List.cons_append, List.nil_append, zite0, zite1, zite01, znn, ite_not, true_or, or_true, true_and, and_true, zn10, zn00, zk_1 hL, zr_1_0 hL, zk_2 hL, hb, zb_X_best_4, h1, zb_X_best_20]
/-- what a win first, a loss first brings -/
def zvf (T : zTb) (p m : Nat) (w : Int) : Int := zmo (T.1 (57 + 4 * p)) (m - 1) (znx w (zpq T p)) + zdl w (zpq T p)
def zr_should (S : zSt) (p m : Int) : zV × zSt := if (0 ≤ p ∧ p ≤ 3) ∧ (1 ≤ m ∧ m ≤ 10) then (.inl (if zbe S.1 p.toNat m.toNat = 0 then -1 else if zvf S.1 p.toNat m.toNat 0 < zvf S.1 p.toNat m.toNat 1 then 1 else 0), S) else (.inl (-1000001), zSf S 0)
theorem zx_should (hL : zLay L) (ho : zSOK n S) (hn : n < 100000) {p m : Int} : zHX X L (d + 25) 100 [.inl p, .inl m] S (zr_should S p m) := by
  intro I hr
  have hb := zq_X_isPlayer (X := X) (d := d + 22) (σ := (I, L)) (v := p)
  have hc := zq_X_isRounds (X := X) (d := d + 22) (σ := (I, L)) (v := m)
  obtain ⟨J, h1, h2, h3⟩ := zX_tellc (X := X) (d := d + 23) (k := 0) (c := -1000001) hL ho (by omega) (by omega) hr
  unfold zr_should
  by_cases hp : 0 ≤ p ∧ p ≤ 3
  · rw [if_pos hp] at hb
    by_cases hm : 1 ≤ m ∧ m ≤ 10
    · rw [if_pos hm] at hc
      rw [if_pos ⟨hp, hm⟩]
      obtain ⟨p, rfl⟩ := Int.eq_ofNat_of_zero_le hp.1
      obtain ⟨m, rfl⟩ := Int.eq_ofNat_of_zero_le (show 0 ≤ m by omega)
      rw [Int.toNat_natCast, Int.toNat_natCast]
      obtain ⟨k, rfl⟩ : ∃ k, m = k + 1 := ⟨m - 1, by omega⟩
      obtain ⟨l3, l4⟩ := zpl hL (show p < 4 by omega)
      obtain ⟨e0, e1, e2, e3⟩ := zx_pl4 hr.1 (show p < 4 by omega)
      have hq := zq_brings (X := X) (d := d + 20 - 2 * (k + 1)) hL hr.1 ho.1 (by omega) (show p < 4 by omega) (show k + 1 ≤ 10 by omega)
      rw [show d + 20 - 2 * (k + 1) + 2 * (k + 1) + 4 = d + 24 by omega] at hq
      have hok := zpq_ok ho.1 (show p < 4 by omega)
      have hw := zq_winF (X := X) (d := d + 22) (σ := (I, L)) (be := S.1.1 (57 + 4 * p)) (m := k) hok (by omega) (by omega) (by
        have := zq_mostOf (X := X) (d := d + 20 - 2 * k) (σ := (I, L)) (be := S.1.1 (57 + 4 * p)) k _ _ (by omega) (znx_ok (w := 1) hok) (by omega)
        rw [show d + 20 - 2 * k + 2 * k + 3 = d + 22 + 1 by omega] at this
        exact this)
      have hl := zq_losF (X := X) (d := d + 22) (σ := (I, L)) (be := S.1.1 (57 + 4 * p)) (m := k) hok (by omega) (by omega) (by
        have := zq_mostOf (X := X) (d := d + 20 - 2 * k) (σ := (I, L)) (be := S.1.1 (57 + 4 * p)) k _ _ (by omega) (znx_ok (w := 0) hok) (by omega)
        rw [show d + 20 - 2 * k + 2 * k + 3 = d + 22 + 1 by omega] at this
        exact this)
      refine ⟨I, ?_, hr, fun _ _ => rfl⟩
      refine ((zcal_go zp_X_should rfl).trans zb_X_should_0).trans ?_
      simp only [if_true, if_false, Option.bind_some, Option.bind, Option.toList, List.cons_append, List.nil_append, zite0, zite1, zite01, znn, ite_not, true_or, or_true, true_and, and_true, zn10, zn00, zk_1 hL, zr_1_0 hL, zk_2 hL, hb, hc, zb_X_should_4, zb_X_should_11, zr_2_7 hL, zc5 hL (show p < 4 by omega), Int.toNat_natCast, l3, l4, hq, zb_X_should_36, e0, e1, e2, e3, hw, zb_X_should_57, hl, zb_X_should_79]
      show _ = some (some (Sum.inl (if zmo (S.1.1 (57 + 4 * p)) (k + 1) (zpq S.1 p) = 0 then -1 else if zmo (S.1.1 (57 + 4 * p)) k (znx 0 (zpq S.1 p)) + zdl 0 (zpq S.1 p) < zmo (S.1.1 (57 + 4 * p)) k (znx 1 (zpq S.1 p)) + zdl 1 (zpq S.1 p) then 1 else 0)), (I, L))
      split
      · rfl
      · split <;> rfl
    · rw [if_neg hm] at hc
      rw [if_neg (fun h => hm h.2)]
      refine ⟨J, ?_, h2, h3⟩
      refine ((zcal_go zp_X_should rfl).trans zb_X_should_0).trans ?_
      simp only [if_true, if_false, Option.bind_some, Option.bind, Option.toList, List.cons_append, List.nil_append, zite0, zite1, zite01, znn, ite_not, true_or, or_true, true_and, and_true, zn10, zn00, zk_1 hL, zr_1_0 hL, zk_2 hL, hb, hc, zb_X_should_4, zb_X_should_11, h1, zb_X_should_20]
  · rw [if_neg hp] at hb
    rw [if_neg (fun h => hp h.1)]
    refine ⟨J, ?_, h2, h3⟩
    refine ((zcal_go zp_X_should rfl).trans zb_X_should_0).trans ?_
    simp only [if_true, if_false, Option.bind_some, Option.bind, Option.toList, List.cons_append, List.nil_append, zite0, zite1, zite01, znn, ite_not, true_or, or_true, true_and, and_true, zn10, zn00, zk_1 hL, zr_1_0 hL, zk_2 hL, hb, zb_X_should_4, h1, zb_X_should_20]
def zr_richest (S : zSt) (m : Int) : zV × zSt := if 1 ≤ m ∧ m ≤ 10 then (.inl (zbl (fun p => zbe S.1 p m.toNat) 4 0 0 (-1)), S) else (.inl (-1000001), zSf S 0)
theorem zx_rich_l (hL : zLay L) (hT : zTC I 2 T) (ho : zTOK n T) (hn : n ≤ 200000) {m : Nat} (hm : m ≤ 10) : ∀ (k i : Nat) (b mo : Int) (o : Option zV), i + k = 4 → zgo X (zcal X zP (d + 24)) zc_X_richest 21 [some (.inr (.inr (.inl 1))), some (.inl (m : Int)), some (.inl b), some (.inl mo), some (.inl (i : Int)), o] [] (I, L) = some (some (.inl (zbl (fun p => zbe T p m) k i b mo)), (I, L)) := by
  intro k
  induction k with
  | zero =>
    intro i b mo o hi
    rw [zb_X_richest_21, if_neg (by omega)]
    rfl
  | succ k ih =>
    intro i b mo o hi
    have hi4 : i < 4 := by omega
    have hii : (i : Int) < 4 := by omega
    have him : i < 1000000 := by omega
    obtain ⟨l3, l4⟩ := zpl hL hi4
    have hq := zq_brings (X := X) (d := d + 20 - 2 * m) hL hT ho hn hi4 hm
    rw [show d + 20 - 2 * m + 2 * m + 4 = d + 24 by omega] at hq
    have hq : _ = some (some (Sum.inl (zbe T i m)), (I, L)) := hq
    have a1 := ih (i + 1) (i : Int) (zbe T i m) (some (.inl (zbe T i m))) (by omega)
    have a2 := ih (i + 1) b mo (some (.inl (zbe T i m))) (by omega)
    rw [zb_X_richest_21, if_pos hii, zbl_s]
    simp only [if_true, if_false, Option.bind_some, Option.bind, Option.toList, List.cons_append, List.nil_append, zite0, zite1, zite01, znn, ite_not, true_or, or_true, true_and, and_true, zn10, zn00, zk_1 hL, zr_1_0 hL, zk_2 hL, zr_2_7 hL, zc5 hL hi4, Int.toNat_natCast, l3, l4, hq, zb_X_richest_41]
    rw [zw32n him, a1, a2]
    split <;> rfl
theorem zx_richest (hL : zLay L) (ho : zSOK n S) (hn : n < 100000) {m : Int} : zHX X L (d + 25) 101 [.inl m] S (zr_richest S m) := by
  intro I hr
  have hc := zq_X_isRounds (X := X) (d := d + 22) (σ := (I, L)) (v := m)
  unfold zr_richest
  by_cases hm : 1 ≤ m ∧ m ≤ 10
  · rw [if_pos hm] at hc ⊢
    obtain ⟨m, rfl⟩ := Int.eq_ofNat_of_zero_le (show 0 ≤ m by omega)
    rw [Int.toNat_natCast]
    refine ⟨I, ?_, hr, fun _ _ => rfl⟩
    refine ((zcal_go zp_X_richest rfl).trans zb_X_richest_0).trans ?_
    simp only [if_true, if_false, Option.bind_some, Option.bind, Option.toList, List.cons_append, List.nil_append, zite0, zite1, zite01, znn, ite_not, true_or, or_true, true_and, and_true, zn10, zn00, zk_1 hL, zr_1_0 hL, zk_2 hL, hc, zb_X_richest_4]
    exact zx_rich_l hL hr.1 ho.1 (by omega) (by omega) 4 0 0 (-1) none (by omega)
  · rw [if_neg hm] at hc ⊢
    obtain ⟨J, h1, h2, h3⟩ := zX_tellc (X := X) (d := d + 23) (k := 0) (c := -1000001) hL ho (by omega) (by omega) hr
    refine ⟨J, ?_, h2, h3⟩
    refine ((zcal_go zp_X_richest rfl).trans zb_X_richest_0).trans ?_
    simp only [if_true, if_false, Option.bind_some, Option.bind, Option.toList, List.cons_append, List.nil_append, zite0, zite1, zite01, znn, ite_not, true_or, or_true, true_and, and_true, zn10, zn00, zk_1 hL, zr_1_0 hL, zk_2 hL, hc, zb_X_richest_4, h1, zb_X_richest_13]
end
