/-! WEIGHTS: the reference's. -/
theorem zi47 {e : Nat} (h : e < 4) : w32 (47 + (w32 (2 * (e : Int)))) = ((47 + 2 * e : Nat) : Int) := by unfold w32; omega
theorem zi48 {e : Nat} (h : e < 4) : w32 ((w32 (47 + (w32 (2 * (e : Int))))) + 1) = ((48 + 2 * e : Nat) : Int) := by unfold w32; omega
theorem zi2s {s : Int} (h : 0 ≤ s ∧ s ≤ 10) : w32 (2 * s) = 2 * s := by unfold w32; omega
theorem ztmod1 {y c : Int} (hy : 0 ≤ y ∧ y < c) : Int.tmod (y + 1) c = if y + 1 < c then y + 1 else 0 := by
  rw [Int.tmod_eq_emod_of_nonneg (by omega)]
  split
  · next h => exact Int.emod_eq_of_lt (by omega) h
  · next h => rw [show y + 1 = c by omega, Int.emod_self]
section
variable {X : zX} {C : zC} {d n : Nat} {L : zLt} {S : zSt} {T : zTb}
theorem zc141 (hL : zLay L) {i : Nat} (h : i < 6) : ((L.2.1 141).1 = 3 ∧ 0 ≤ (i : Int) ∧ (i : Int) < ((L.2.1 141).2.1 : Int)) = True := by
  rw [zk_141 hL]
  exact eq_true ⟨rfl, by omega, by show (i : Int) < ((6 : Nat) : Int); omega⟩
theorem zc142 (hL : zLay L) {i : Nat} (h : i < 6) : ((L.2.1 142).1 = 3 ∧ 0 ≤ (i : Int) ∧ (i : Int) < ((L.2.1 142).2.1 : Int)) = True := by
  rw [zk_142 hL]
  exact eq_true ⟨rfl, by omega, by show (i : Int) < ((6 : Nat) : Int); omega⟩
theorem zc143 (hL : zLay L) {i : Nat} (h : i < 6) : ((L.2.1 143).1 = 3 ∧ 0 ≤ (i : Int) ∧ (i : Int) < ((L.2.1 143).2.1 : Int)) = True := by
  rw [zk_143 hL]
  exact eq_true ⟨rfl, by omega, by show (i : Int) < ((6 : Nat) : Int); omega⟩
theorem zq_M_slips {I : Nat → Nat → Int} (hL : zLay L) (hT : zTM I 136 T) (ho : zTOK n T) {e : Nat} (he : e < 4) {k : Int} : zcal X zP (d + 1) 163 [.inr (.inr (.inl 135)), .inl (e : Int), .inl k] (I, L) = some (some (.inl (zslip k (T.1 (47 + 2 * e)))), (I, L)) := by
  have es : I 136 (47 + 2 * e) = T.1 (47 + 2 * e) := hT.1 _ (by omega)
  have hs := (ho.2.2.2.2.2.2.1 e he).1
  refine ((zcal_go zp_M_slips rfl).trans zb_M_slips_0).trans ?_
  simp only [if_true, if_false, Option.bind_some, Option.bind, Option.toList, List.cons_append, List.nil_append, zite0, zite1, zite01, znn, ite_not, true_or, or_true, true_and, and_true, zn10, zn00, zk_135 hL, zr_135_0 hL, z6_0 hL, z6_1 hL, z6_2 hL, z6_3 hL, z6_4 hL, zi47 he, zd136 hL (show 0 ≤ ((47 + 2 * e : Nat) : Int) ∧ ((47 + 2 * e : Nat) : Int) < 96 by omega), Int.toNat_natCast, es, zi2s hs]
  unfold zslip
  split
  · rfl
  · split
    · split <;> rfl
    · rfl
theorem zm_begins_l (hL : zLay L) {e : Nat} {b : Int} (he : e < 4) : ∀ (m i : Nat) (I : Nat → Nat → Int), i + m = 6 → I 136 (48 + 2 * e) = b → ∃ I', zgo X C zc_M_beginsBy 2 [some (.inr (.inr (.inl 135))), some (.inl (e : Int)), some (.inl (i : Int))] [] (I, L) = some (none, (I', L)) ∧ (∀ a j, (a ≠ 141 ∨ j < i) → I' a j = I a j) ∧ ∀ q, i ≤ q → q < 6 → I' 141 q = zw0 b q := by
  intro m
  induction m with
  | zero =>
    intro i I hi _
    refine ⟨I, ?_, fun a j _ => rfl, fun q h1 h2 => absurd h1 (by omega)⟩
    rw [zb_M_beginsBy_2, if_neg (by omega)]
  | succ m ih =>
    intro i I hi hb
    have ew : zw0 b i = if (i : Int) = b then 1 else 0 := rfl
    obtain ⟨I', q1, q2, q3⟩ := ih (i + 1) (zwI I 141 i (zw0 b i)) (by omega) ((zwI_ne (by omega)).trans hb)
    refine ⟨I', ?_, fun a j h => (q2 a j (by omega)).trans ?_, fun q h1 h2 => ?_⟩
    · rw [zb_M_beginsBy_2, if_pos (by omega)]
      simp only [if_true, if_false, Option.bind_some, Option.bind, Option.toList, List.cons_append, List.nil_append, zite0, zite1, zite01, znn, ite_not, true_or, or_true, true_and, and_true, zn10, zn00, zk_135 hL, zr_135_0 hL, z6_0 hL, z6_1 hL, z6_2 hL, z6_3 hL, z6_4 hL, zi48 he, zd136 hL (show 0 ≤ ((48 + 2 * e : Nat) : Int) ∧ ((48 + 2 * e : Nat) : Int) < 96 by omega), Int.toNat_natCast, hb, zr_135_7 hL, zc141 hL (show i < 6 by omega), zw_I]
      rw [zw32n (by omega)]
      by_cases c : (i : Int) = b
      · rw [if_pos c] at ew ⊢
        rw [ew] at q1
        exact q1
      · rw [if_neg c] at ew ⊢
        rw [ew] at q1
        exact q1
    · rw [zwI_if, if_neg (by omega)]
    · by_cases h : q = i
      · rw [h, q2 _ _ (by omega), zwI_eq]
      · exact q3 q (by omega) h2
theorem zm_looks_1 (hL : zLay L) {c : Nat} {x y z s B : Int} {w : Nat → Int} (hc : 3 ≤ c ∧ c ≤ 6) (hx : 0 ≤ x ∧ x < (c : Int)) (hy : 0 ≤ y ∧ y < (c : Int)) (hz : z = zmiss (c : Int) x y) (hs : 0 ≤ s ∧ s ≤ 10) (hw : zwOK B w) (hB : 0 ≤ B ∧ B ≤ 100000000000000000) : ∀ (m i : Nat) (I : Nat → Nat → Int), i + m = c → I 136 0 = (c : Int) → (∀ q, q < 6 → I 141 q = w q) → ∃ I', zgo X (zcal X zP (d + 1)) zc_M_looksAt 39 [some (.inr (.inr (.inl 135))), some (.inl x), some (.inl y), some (.inl s), some (.inl z), some (.inl (i : Int))] [] (I, L) = zgo X (zcal X zP (d + 1)) zc_M_looksAt 101 [some (.inr (.inr (.inl 135))), some (.inl x), some (.inl y), some (.inl s), some (.inl z), some (.inl 0)] [] (I', L) ∧ (∀ a j, (a ≠ 142 ∨ j < i) → I' a j = I a j) ∧ ∀ q, i ≤ q → q < c → I' 142 q = zsee (c : Int) x y s w q := by
  have hz1 := zmiss_in (x := x) (show (3 : Int) ≤ (c : Int) by omega) hy
  rw [← hz] at hz1
  intro m
  induction m with
  | zero =>
    intro i I hi h0 hI
    refine ⟨I, ?_, fun a j _ => rfl, fun q h1 h2 => absurd h1 (by omega)⟩
    rw [zb_M_looksAt_39]
    simp only [if_true, if_false, Option.bind_some, Option.bind, Option.toList, List.cons_append, List.nil_append, zite0, zite1, zite01, znn, ite_not, true_or, or_true, true_and, and_true, zn10, zn00, zk_135 hL, zr_135_0 hL, z6_0 hL, z6_1 hL, z6_2 hL, z6_3 hL, z6_4 hL, h0]
    rw [if_neg (by omega)]
  | succ m ih =>
    intro i I hi h0 hI
    have u1 := zswap_in (p := (i : Int)) hx hy (by omega)
    have u2 := zswap_in (p := (i : Int)) hx hz1 (by omega)
    obtain ⟨v1, e1⟩ := Int.eq_ofNat_of_zero_le u1.1
    obtain ⟨v2, e2⟩ := Int.eq_ofNat_of_zero_le u2.1
    have hv1 : v1 < 6 := by omega
    have hv2 : v2 < 6 := by omega
    clear u1 u2
    have hic : (i : Int) < (c : Int) := by omega
    have hi6 : i < 6 := by omega
    have him : i < 1000000 := by omega
    obtain ⟨I', q1, q2, q3⟩ := ih (i + 1) (zwI I 142 i ((10 - s) * w v1 + s * w v2)) (by omega) ((zwI_ne (by omega)).trans h0) (fun q hq => (zwI_ne (by omega)).trans (hI q hq))
    have f1 : ∀ a j, (a ≠ 142 ∨ j < i) → I' a j = I a j := fun a j h => (q2 a j (by omega)).trans (by rw [zwI_if, if_neg (by omega)])
    have fi : I' 142 i = (10 - s) * w v1 + s * w v2 := (q2 _ _ (by omega)).trans zwI_eq
    have f2 : ∀ q, i ≤ q → q < c → q ≠ i → I' 142 q = zsee (c : Int) x y s w q := fun q h1 h2 h3 => q3 q (by omega) h2
    have w1 := zq_M_swapped (X := X) (d := d) (σ := (I, L)) (a := x) (b := y) (v := (i : Int))
    have w2 := zq_M_swapped (X := X) (d := d) (σ := (I, L)) (a := x) (b := z) (v := (i : Int))
    rw [e1] at w1
    rw [e2] at w2
    rw [hz] at e2
    have ez := zsee_in (s := s) (w := w) hic e1 e2
    refine ⟨I', ?_, f1, fun q h1 h2 => ?_⟩
    · rw [zb_M_looksAt_39]
      simp only [if_true, if_false, Option.bind_some, Option.bind, Option.toList, List.cons_append, List.nil_append, zite0, zite1, zite01, znn, ite_not, true_or, or_true, true_and, and_true, zn10, zn00, zk_135 hL, zr_135_0 hL, z6_0 hL, z6_1 hL, z6_2 hL, z6_3 hL, z6_4 hL, h0, eq_true hic, w1, zr_135_7 hL, zr_135_8 hL, zb_M_looksAt_72, zc141 hL hv1, Int.toNat_natCast, hI v1 hv1, w2, zb_M_looksAt_88, zc141 hL hv2, hI v2 hv2, zc142 hL hi6, zw10 hs, zw64m hs (hw v1) (hw v2) hB, zw_I]
      rw [zw32n him]
      exact q1
    · by_cases h : q = i
      · rw [h, fi, ez]
      · exact f2 q h1 h2 h
theorem zm_looks_2 (hL : zLay L) {c : Nat} {x y z s : Int} (hc : c ≤ 6) : ∀ (m i : Nat) (I : Nat → Nat → Int), i + m = c → I 136 0 = (c : Int) → ∃ I', zgo X C zc_M_looksAt 101 [some (.inr (.inr (.inl 135))), some (.inl x), some (.inl y), some (.inl s), some (.inl z), some (.inl (i : Int))] [] (I, L) = some (none, (I', L)) ∧ (∀ a j, (a ≠ 141 ∨ j < i ∨ c ≤ j) → I' a j = I a j) ∧ ∀ q, i ≤ q → q < c → I' 141 q = I 142 q := by
  intro m
  induction m with
  | zero =>
    intro i I hi h0
    refine ⟨I, ?_, fun a j _ => rfl, fun q h1 h2 => absurd h1 (by omega)⟩
    rw [zb_M_looksAt_101]
    simp only [if_true, if_false, Option.bind_some, Option.bind, Option.toList, List.cons_append, List.nil_append, zite0, zite1, zite01, znn, ite_not, true_or, or_true, true_and, and_true, zn10, zn00, zk_135 hL, zr_135_0 hL, z6_0 hL, z6_1 hL, z6_2 hL, z6_3 hL, z6_4 hL, h0]
    rw [if_neg (by omega)]
  | succ m ih =>
    intro i I hi h0
    obtain ⟨I', q1, q2, q3⟩ := ih (i + 1) (zwI I 141 i (I 142 i)) (by omega) ((zwI_ne (by omega)).trans h0)
    refine ⟨I', ?_, fun a j h => (q2 a j (by omega)).trans ?_, fun q h1 h2 => ?_⟩
    · rw [zb_M_looksAt_101]
      simp only [if_true, if_false, Option.bind_some, Option.bind, Option.toList, List.cons_append, List.nil_append, zite0, zite1, zite01, znn, ite_not, true_or, or_true, true_and, and_true, zn10, zn00, zk_135 hL, zr_135_0 hL, z6_0 hL, z6_1 hL, z6_2 hL, z6_3 hL, z6_4 hL, h0, eq_true (show (i : Int) < (c : Int) by omega), zr_135_7 hL, zr_135_8 hL, zc141 hL (show i < 6 by omega), zc142 hL (show i < 6 by omega), Int.toNat_natCast, zw_I]
      rw [zw32n (by omega)]
      exact q1
    · rw [zwI_if, if_neg (by omega)]
    · by_cases h : q = i
      · rw [h, q2 _ _ (by omega), zwI_eq]
      · rw [q3 q (by omega) h2, zwI_ne (by omega)]
theorem zq_M_looksAt {I : Nat → Nat → Int} (hL : zLay L) {c x y s B : Int} {w : Nat → Int} (hc : 3 ≤ c ∧ c ≤ 6) (h0 : I 136 0 = c) (hx : 0 ≤ x ∧ x < c) (hy : 0 ≤ y ∧ y < c) (hs : 0 ≤ s ∧ s ≤ 10) (hw : zwOK B w) (hB : 0 ≤ B ∧ B ≤ 100000000000000000) (hz : ∀ q : Nat, c ≤ (q : Int) → w q = 0) (hI : ∀ q, q < 6 → I 141 q = w q) : ∃ I', zcal X zP (d + 2) 165 [.inr (.inr (.inl 135)), .inl x, .inl y, .inl s] (I, L) = some (none, (I', L)) ∧ (∀ a, a ≠ 141 → a ≠ 142 → I' a = I a) ∧ ∀ q, q < 6 → I' 141 q = zsee c x y s w q := by
  obtain ⟨c, rfl⟩ := Int.eq_ofNat_of_zero_le (show 0 ≤ c by omega)
  obtain ⟨I1, a1, a2, a3⟩ := zm_looks_1 (X := X) (d := d) hL (c := c) (by omega) hx hy rfl hs hw hB c 0 I (by omega) h0 hI
  obtain ⟨I2, b1, b2, b3⟩ := zm_looks_2 (X := X) (C := zcal X zP (d + 1)) hL (c := c) (x := x) (y := y) (s := s) (z := zmiss (c : Int) x y) (by omega) c 0 I1 (by omega) ((a2 _ _ (by omega)).trans h0)
  refine ⟨I2, ?_, fun a h1 h2 => funext fun j => (b2 a j (by omega)).trans (a2 a j (by omega)), fun q hq => ?_⟩
  · have n0 : ¬ (c : Int) = 0 := by omega
    have t1 : Int.tmod (w32 (y + 1)) (c : Int) = if y + 1 < (c : Int) then y + 1 else 0 := by rw [zw32 (by omega) (by omega)]; exact ztmod1 hy
    have hz : zmiss (c : Int) x y = if (if y + 1 < (c : Int) then y + 1 else 0) = x then (if (if y + 1 < (c : Int) then y + 1 else 0) + 1 < (c : Int) then (if y + 1 < (c : Int) then y + 1 else 0) + 1 else 0) else (if y + 1 < (c : Int) then y + 1 else 0) := rfl
    have hm0 : 0 ≤ (if y + 1 < (c : Int) then y + 1 else 0) ∧ (if y + 1 < (c : Int) then y + 1 else 0) < (c : Int) := by split <;> omega
    generalize (if y + 1 < (c : Int) then y + 1 else 0) = m at hz hm0 t1
    have t2 : Int.tmod (w32 (m + 1)) (c : Int) = if m + 1 < (c : Int) then m + 1 else 0 := by rw [zw32 (by omega) (by omega)]; exact ztmod1 hm0
    refine ((zcal_go zp_M_looksAt rfl).trans zb_M_looksAt_0).trans ?_
    by_cases hmx : m = x
    · rw [if_pos hmx] at hz
      simp only [if_true, if_false, Option.bind_some, Option.bind, Option.toList, List.cons_append, List.nil_append, zite0, zite1, zite01, znn, ite_not, true_or, or_true, true_and, and_true, zn10, zn00, zk_135 hL, zr_135_0 hL, z6_0 hL, z6_1 hL, z6_2 hL, z6_3 hL, z6_4 hL, h0, eq_false n0, t1, eq_true hmx, t2, ← hz]
      exact a1.trans b1
    · rw [if_neg hmx] at hz
      simp only [if_true, if_false, Option.bind_some, Option.bind, Option.toList, List.cons_append, List.nil_append, zite0, zite1, zite01, znn, ite_not, true_or, or_true, true_and, and_true, zn10, zn00, zk_135 hL, zr_135_0 hL, z6_0 hL, z6_1 hL, z6_2 hL, z6_3 hL, z6_4 hL, h0, eq_false n0, t1, eq_false hmx]
      rw [hz] at a1 b1
      exact a1.trans b1
  · by_cases h : q < c
    · rw [b3 q (by omega) h]; exact a3 q (by omega) h
    · rw [b2 _ _ (by omega), a2 _ _ (by omega), hI q hq, zsee_hi (by omega)]
      exact hz q (by omega)
theorem zm_watch_l (hL : zLay L) {e k : Nat} {sharp : Int} (he : e < 4) (ho : zTOK n T) (hk : k ≤ T.2.1) : ∀ (m i : Nat) (I : Nat → Nat → Int), i + m = k → zTM I 136 T → (∀ q, q < 6 → I 141 q = zW T e sharp i q) → ∃ I', zgo X (zcal X zP (d + 3)) zc_M_watches 8 [some (.inr (.inr (.inl 135))), some (.inl (e : Int)), some (.inl (k : Int)), some (.inl sharp), some (.inl (i : Int))] [] (I, L) = some (none, (I', L)) ∧ (∀ a, a ≠ 141 → a ≠ 142 → I' a = I a) ∧ ∀ q, q < 6 → I' 141 q = zW T e sharp k q := by
  have h14 := ho.2.2.2.2.1
  intro m
  induction m with
  | zero =>
    intro i I hi hT hI
    refine ⟨I, ?_, fun a _ _ => rfl, fun q hq => ?_⟩
    · rw [zb_M_watches_8, if_neg (by omega)]
    · rw [show k = i by omega]; exact hI q hq
  | succ m ih =>
    intro i I hi hT hI
    obtain ⟨o1, o2, o3, o4⟩ := ho.2.2.2.2.2.1 i (by omega)
    have hB := zB_le (show i ≤ 18 by omega)
    have hBi : zB i ≤ 100000000000000000 := (by decide : ∀ k, k < 18 → zB k ≤ 100000000000000000) i (by omega)
    have hsl := zslp_ok (sharp := sharp) (i := i) ho he
    have e0 : I 136 0 = T.1 0 := hT.1 0 (by omega)
    obtain ⟨I1, b1, b2, b3⟩ := zq_M_looksAt (X := X) (d := d + 1) (I := I) hL ho.1 e0 o2 (zlooks_in (k := (T.2.2 i).1) (a := (T.2.2 i).2.1) ho.1.1 o3) hsl (zW_ok (sharp := sharp) ho he i (by omega)) ⟨by omega, hBi⟩ (fun q hq => zW_hi ho he hq i) hI
    obtain ⟨I', q1, q2, q3⟩ := ih (i + 1) I1 (by omega) (zTM_row (b2 _ (by omega) (by omega)) hT) b3
    refine ⟨I', ?_, fun a h1 h2 => (q2 a h1 h2).trans (b2 a h1 h2), q3⟩
    have i1 := zq_M_its1 (X := X) (d := d + 2) hL hT ho (show i < T.2.1 by omega)
    have i0 := zq_M_its0 (X := X) (d := d + 2) hL hT ho (show i < T.2.1 by omega)
    have i2 := zq_M_seen (X := X) (d := d + 1) hL hT ho (show i < T.2.1 by omega)
    have i3 := zq_M_slips (X := X) (d := d + 2) hL hT ho he (k := (T.2.2 i).1)
    rw [zb_M_watches_8, if_pos (by omega)]
    by_cases c : (i : Int) = sharp
    · have ez : zslp T e sharp i = 0 := if_pos c
      rw [ez] at b1
      simp only [if_true, if_false, Option.bind_some, Option.bind, Option.toList, List.cons_append, List.nil_append, zite0, zite1, zite01, znn, ite_not, true_or, or_true, true_and, and_true, zn10, zn00, zk_135 hL, zr_135_0 hL, z6_0 hL, z6_1 hL, z6_2 hL, z6_3 hL, z6_4 hL, i1, zb_M_watches_22, i2, zb_M_watches_28, eq_true c, zb_M_watches_50, b1, zb_M_watches_53]
      rw [zw32n (by omega)]
      exact q1
    · have ez : zslp T e sharp i = zslip (T.2.2 i).1 (T.1 (47 + 2 * e)) := if_neg c
      rw [ez] at b1
      simp only [if_true, if_false, Option.bind_some, Option.bind, Option.toList, List.cons_append, List.nil_append, zite0, zite1, zite01, znn, ite_not, true_or, or_true, true_and, and_true, zn10, zn00, zk_135 hL, zr_135_0 hL, z6_0 hL, z6_1 hL, z6_2 hL, z6_3 hL, z6_4 hL, i1, zb_M_watches_22, i2, zb_M_watches_28, eq_false c, i0, zb_M_watches_47, i3, zb_M_watches_50, b1, zb_M_watches_53]
      rw [zw32n (by omega)]
      exact q1
theorem zq_M_watches {I : Nat → Nat → Int} (hL : zLay L) {e k : Nat} {sharp : Int} (he : e < 4) (ho : zTOK n T) (hT : zTM I 136 T) (hk : k ≤ T.2.1) : ∃ I', zcal X zP (d + 4) 166 [.inr (.inr (.inl 135)), .inl (e : Int), .inl (k : Int), .inl sharp] (I, L) = some (none, (I', L)) ∧ (∀ a, a ≠ 141 → a ≠ 142 → I' a = I a) ∧ ∀ q, q < 6 → I' 141 q = zW T e sharp k q := by
  have eb : I 136 (48 + 2 * e) = T.1 (48 + 2 * e) := hT.1 _ (by omega)
  obtain ⟨I1, a1, a2, a3⟩ := zm_begins_l (X := X) (C := zcal X zP (d + 2)) hL he 6 0 I (by omega) eb
  obtain ⟨I', q1, q2, q3⟩ := zm_watch_l (X := X) (d := d) (sharp := sharp) hL he ho hk k 0 I1 (by omega) (zTM_row (funext fun j => a2 _ _ (by omega)) hT) (fun q hq => a3 q (by omega) hq)
  refine ⟨I', ?_, fun a h1 h2 => (q2 a h1 h2).trans (funext fun j => a2 a j (by omega)), q3⟩
  have hbg : zcal X zP (d + 3) 164 [.inr (.inr (.inl 135)), .inl (e : Int)] (I, L) = some (none, (I1, L)) := by
    refine ((zcal_go zp_M_beginsBy rfl).trans zb_M_beginsBy_0).trans ?_
    exact a1
  refine ((zcal_go zp_M_watches rfl).trans zb_M_watches_0).trans ?_
  simp only [if_true, if_false, Option.bind_some, Option.bind, Option.toList, List.cons_append, List.nil_append, zite0, zite1, zite01, znn, ite_not, true_or, or_true, true_and, and_true, zn10, zn00, zk_135 hL, zr_135_0 hL, z6_0 hL, z6_1 hL, z6_2 hL, z6_3 hL, z6_4 hL, hbg, zb_M_watches_5]
  exact q1
theorem zm_heavy_l {I : Nat → Nat → Int} (hL : zLay L) {c : Nat} {w : Nat → Int} (hc : c ≤ 6) (h0 : I 136 0 = (c : Int)) (hw : ∀ q, q < 6 → I 141 q = w q) : ∀ (m i b : Nat), i + m = c → b < 6 → zgo X C zc_M_heaviest 4 [some (.inr (.inr (.inl 135))), some (.inl (b : Int)), some (.inl (i : Int))] [] (I, L) = some (some (.inl ((zhv w m i b : Nat) : Int)), (I, L)) := by
  intro m
  induction m with
  | zero =>
    intro i b hi hb
    rw [zb_M_heaviest_4]
    simp only [if_true, if_false, Option.bind_some, Option.bind, Option.toList, List.cons_append, List.nil_append, zite0, zite1, zite01, znn, ite_not, true_or, or_true, true_and, and_true, zn10, zn00, zk_135 hL, zr_135_0 hL, z6_0 hL, z6_1 hL, z6_2 hL, z6_3 hL, z6_4 hL, h0]
    rw [if_neg (by omega)]
    rfl
  | succ m ih =>
    intro i b hi hb
    rw [zb_M_heaviest_4]
    simp only [if_true, if_false, Option.bind_some, Option.bind, Option.toList, List.cons_append, List.nil_append, zite0, zite1, zite01, znn, ite_not, true_or, or_true, true_and, and_true, zn10, zn00, zk_135 hL, zr_135_0 hL, z6_0 hL, z6_1 hL, z6_2 hL, z6_3 hL, z6_4 hL, h0, eq_true (show (i : Int) < (c : Int) by omega), zr_135_7 hL, zc141 hL (show i < 6 by omega), zc141 hL hb, Int.toNat_natCast, hw i (by omega), hw b hb, zcmp_gt]
    rw [zw32n (by omega), ih _ _ (by omega) (by omega), ih _ _ (by omega) hb]
    have e : zhv w (m + 1) i b = zhv w m (i + 1) (if w b < w i then i else b) := rfl
    rw [e]
    split <;> rfl
/-- the reference's likeliest place is the class's -/
theorem zq_M_heaviest {I : Nat → Nat → Int} (hL : zLay L) {c : Int} {w : Nat → Int} (hc : 3 ≤ c ∧ c ≤ 6) (h0 : I 136 0 = c) (hw : ∀ q, q < 6 → I 141 q = w q) (hw0 : ∀ q, 0 ≤ w q) (hz : ∀ q : Nat, c ≤ (q : Int) → w q = 0) : zcal X zP (d + 1) 167 [.inr (.inr (.inl 135))] (I, L) = some (some (.inl ((zhv w 5 1 0 : Nat) : Int)), (I, L)) := by
  obtain ⟨c, rfl⟩ := Int.eq_ofNat_of_zero_le (show 0 ≤ c by omega)
  refine ((zcal_go zp_M_heaviest rfl).trans zb_M_heaviest_0).trans ?_
  have e : zhv w 5 1 0 = zhv w (c - 1) 1 0 := by
    have := zhv_cut (w := w) (c := c) hw0 (fun q hq => hz q (by omega)) (c - 1) (6 - c) 1 0 (by omega)
    rw [show c - 1 + (6 - c) = 5 by omega] at this
    exact this
  rw [e]
  exact zm_heavy_l hL (by omega) h0 hw (c - 1) 1 0 (by omega) (by omega)
end
