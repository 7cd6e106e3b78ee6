/-! CONTRACTS OF CALLS: orders, the reference's half. -/
set_option maxRecDepth 20000 in
theorem zbt6 : ∀ s : Nat, s < 1024 → ∀ i : Nat, i < 14 → ((s / 2 ^ i % 2 = 1 → ¬ zand (zshr (s : Int) (i : Int)) 1 = 0) ∧ (¬ s / 2 ^ i % 2 = 1 → zand (zshr (s : Int) (i : Int)) 1 = 0)) := by decide +kernel
section
variable {X : zX} {C : zC} {d n : Nat} {L : zLt} {S : zSt} {T : zTb} {I : Nat → Nat → Int}
theorem zbt2n {s i : Nat} (hs : s < 1024) (hi : i < 14) : (s / 2 ^ i % 2 = 1 → ¬ zand (zshr (s : Int) (i : Int)) 1 = 0) ∧ (¬ s / 2 ^ i % 2 = 1 → zand (zshr (s : Int) (i : Int)) 1 = 0) := zbt6 s hs i hi
theorem zm_or_1 (hL : zLay L) {p : Int} {M : Nat} (hM : M ≤ 128) : ∀ (m i : Nat) (I : Nat → Nat → Int), i + m = 7 * M → ∃ I', zgo X C zc_M_orders 43 [some (.inr (.inr (.inl 135))), some (.inl p), some (.inl (M : Int)), some (.inl (i : Int)), none, none, none] [] (I, L) = zgo X C zc_M_orders 43 [some (.inr (.inr (.inl 135))), some (.inl p), some (.inl (M : Int)), some (.inl ((7 * M : Nat) : Int)), none, none, none] [] (I', L) ∧ (∀ a j, (a ≠ 146 ∨ j < i) → I' a j = I a j) ∧ ∀ k, i ≤ k → k < 7 * M → I' 146 k = 0 := by
  intro m
  induction m with
  | zero =>
    intro i I hi
    have hi : i = 7 * M := hi
    rw [hi]
    exact ⟨I, rfl, fun _ _ _ => rfl, fun k h1 h2 => absurd h1 (by omega)⟩
  | succ m ih =>
    intro i I hi
    obtain ⟨I', q1, q2, q3⟩ := ih (i + 1) (zwI I 146 i 0) (by omega)
    have hii : (i : Int) < ((7 * M : Nat) : Int) := by omega
    have him : i < 1000000 := by omega
    have hi8 : i < 896 := by omega
    refine ⟨I', Eq.trans ?_ q1, fun a j h => (q2 a j (by omega)).trans (by rw [zwI_if, if_neg (by omega)]), fun k h1 h2 => ?_⟩
    · rw [zb_M_orders_43, zm72 (show M < 200 by omega), if_pos hii]
      simp only [if_true, if_false, Option.bind_some, Option.bind, Option.toList, List.cons_append, List.nil_append, zite0, zite1, zite01, znn, ite_not, true_or, or_true, true_and, and_true, zn10, zn00, zk_135 hL, zr_135_0 hL, z6_0 hL, z6_1 hL, z6_2 hL, z6_3 hL, z6_4 hL, zr_135_19 hL, zc146 hL hi8, Int.toNat_natCast, zw_I]
      rw [zw32n him]
    · by_cases e : k = i
      · rw [e, q2 _ _ (by omega), zwI_eq]
      · exact q3 k (by omega) h2
theorem zm_or_g (hL : zLay L) (ho : zTOK n T) (hN : T.2.1 < 8) {s q : Nat} {so p : Int} (hs : s < 2 ^ T.2.1) (hq : (q : Int) ≤ T.1 0) (hso : 0 < so) : ∀ (m i : Nat) (W : Nat → Int) (I : Nat → Nat → Int), i + m = T.2.1 → zTM I 136 T → (∀ k, k < 7 * 2 ^ T.2.1 → I 146 k = W k) → ∃ I' o6, zgo X (zcal X zP (d + 3)) zc_M_orders 118 [some (.inr (.inr (.inl 135))), some (.inl p), some (.inl ((2 ^ T.2.1 : Nat) : Int)), some (.inl (s : Int)), some (.inl ((q : Int) - 1)), some (.inl so), some (.inl (i : Int))] [] (I, L) = zgo X (zcal X zP (d + 3)) zc_M_orders 88 [some (.inr (.inr (.inl 135))), some (.inl p), some (.inl ((2 ^ T.2.1 : Nat) : Int)), some (.inl (s : Int)), some (.inl (((q + 1 : Nat) : Int) - 1)), some (.inl so), o6] [] (I', L) ∧ (∀ k, k < 7 * 2 ^ T.2.1 → I' 146 k = zfor (zwy T s so ((q : Int) - 1)) m i W k) ∧ ∀ a, a ≠ 146 → I' a = I a := by
  obtain ⟨f1, f2, f3⟩ := zof2 T.2.1 hN
  have h06 := ho.1
  intro m
  induction m with
  | zero =>
    intro i W I hi hT hW
    have e2 : I 136 1 = (T.2.1 : Int) := hT.2.1
    have hq100 : q < 100 := by omega
    refine ⟨I, some (.inl (i : Int)), ?_, hW, fun _ _ => rfl⟩
    rw [zb_M_orders_118]
    simp only [if_true, if_false, Option.bind_some, Option.bind, Option.toList, List.cons_append, List.nil_append, zite0, zite1, zite01, znn, ite_not, true_or, or_true, true_and, and_true, zn10, zn00, zk_135 hL, zr_135_0 hL, z6_0 hL, z6_1 hL, z6_2 hL, z6_3 hL, z6_4 hL, e2]
    rw [if_neg (by omega), zpq1 hq100]
  | succ m ih =>
    intro i W I hi hT hW
    have e2 : I 136 1 = (T.2.1 : Int) := hT.2.1
    have hi14 : i < 14 := by omega
    have hiN : i < T.2.1 := by omega
    have him : i < 1000000 := by omega
    have hii : (i : Int) < (T.2.1 : Int) := by omega
    have hs1024 : s < 1024 := by omega
    have hp : -1 ≤ (q : Int) - 1 ∧ (q : Int) - 1 < T.1 0 := by omega
    obtain ⟨-, o2, o3, o7⟩ := ho.2.2.2.2.2.1 i hiN
    have i0 := zq_M_its0 (X := X) (d := d + 2) hL hT ho hiN
    have i1 := zq_M_its1 (X := X) (d := d + 2) hL hT ho hiN
    have i2 := zq_M_its2 (X := X) (d := d + 2) hL hT ho hiN
    have hpb := zq_M_peaBy (X := X) (d := d) (σ := (I, L)) (k := (T.2.2 i).1) (v := (q : Int) - 1) o7 o2.1 o3.1 hp.1
    have hb := zbt2n hs1024 hi14
    have ez : zfor (zwy T s so ((q : Int) - 1)) (m + 1) i W = zfor (zwy T s so ((q : Int) - 1)) m (i + 1) (if s / 2 ^ i % 2 = 1 then W else zup W (zwj T s i ((q : Int) - 1)) so) := rfl
    rw [ez]
    by_cases c : s / 2 ^ i % 2 = 1
    · obtain ⟨I', o6, q1, q2, q3⟩ := ih (i + 1) W I (by omega) hT hW
      have hb0 := hb.1 c
      rw [if_pos c]
      refine ⟨I', o6, ?_, q2, q3⟩
      rw [zb_M_orders_118]
      simp only [if_true, if_false, Option.bind_some, Option.bind, Option.toList, List.cons_append, List.nil_append, zite0, zite1, zite01, znn, ite_not, true_or, or_true, true_and, and_true, zn10, zn00, zk_135 hL, zr_135_0 hL, z6_0 hL, z6_1 hL, z6_2 hL, z6_3 hL, z6_4 hL, e2, eq_true hii, eq_true hso, eq_false hb0]
      rw [zw32n him]
      exact q1
    · have hb0 := hb.2 c
      obtain ⟨g1, g2, g3⟩ := (zof3 T.2.1 hN s hs i hiN).resolve_left c
      obtain ⟨j1, j2, j3, j4⟩ := zwj_ok ho hN hs hiN c hp
      have hj896 : zwj T s i ((q : Int) - 1) < 896 := by omega
      obtain ⟨I', o6, q1, q2, q3⟩ := ih (i + 1) (zup W (zwj T s i ((q : Int) - 1)) so) (zwI I 146 (zwj T s i ((q : Int) - 1)) (w32 (I 146 (zwj T s i ((q : Int) - 1)) + so))) (by omega) (zTM_row (zwI_row (by omega)) hT) (zup_in hW j1)
      have hsi : s + 2 ^ i < 200 := Nat.lt_of_lt_of_le g1 (by omega)
      have hix := zix2 hsi (show -1 ≤ zpea (T.2.2 i).1 (T.2.2 i).2.1 (T.2.2 i).2.2 ((q : Int) - 1) ∧ zpea (T.2.2 i).1 (T.2.2 i).2.1 (T.2.2 i).2.2 ((q : Int) - 1) < 7 by omega)
      have hix : _ = ((zwj T s i ((q : Int) - 1) : Nat) : Int) := hix
      rw [if_neg c]
      refine ⟨I', o6, ?_, q2, fun a ha => (q3 a ha).trans (zwI_row ha)⟩
      rw [zb_M_orders_118]
      simp only [if_true, if_false, Option.bind_some, Option.bind, Option.toList, List.cons_append, List.nil_append, zite0, zite1, zite01, znn, ite_not, true_or, or_true, true_and, and_true, zn10, zn00, zk_135 hL, zr_135_0 hL, z6_0 hL, z6_1 hL, z6_2 hL, z6_3 hL, z6_4 hL, e2, eq_true hii, eq_true hso, eq_true hb0, zr_135_19 hL, i0, g3, zb_M_orders_163, i1, zb_M_orders_170, i2, zb_M_orders_177, hpb, zb_M_orders_182, hix, zc146 hL hj896, Int.toNat_natCast, zw_I]
      rw [zw32n him]
      exact q1
theorem zm_or_2 (hL : zLay L) (ho : zTOK n T) (hN : T.2.1 < 8) {p : Int} {s c : Nat} (hc : T.1 0 = (c : Int)) (hs : s < 2 ^ T.2.1) : ∀ (m q : Nat) (W : Nat → Int) (I : Nat → Nat → Int) (o5 o6 : Option zV), q + m = c + 1 → zInv T.2.1 W (7 * s + q) → zTM I 136 T → (∀ k, k < 7 * 2 ^ T.2.1 → I 146 k = W k) → ∃ I' o4 o5' o6', zgo X (zcal X zP (d + 3)) zc_M_orders 88 [some (.inr (.inr (.inl 135))), some (.inl p), some (.inl ((2 ^ T.2.1 : Nat) : Int)), some (.inl (s : Int)), some (.inl ((q : Int) - 1)), o5, o6] [] (I, L) = zgo X (zcal X zP (d + 3)) zc_M_orders 80 [some (.inr (.inr (.inl 135))), some (.inl p), some (.inl ((2 ^ T.2.1 : Nat) : Int)), some (.inl ((s + 1 : Nat) : Int)), o4, o5', o6'] [] (I', L) ∧ (∀ k, k < 7 * 2 ^ T.2.1 → I' 146 k = zfor (zwg T s) m q W k) ∧ ∀ a, a ≠ 146 → I' a = I a := by
  obtain ⟨f1, f2, f3⟩ := zof2 T.2.1 hN
  have h06 := ho.1
  intro m
  induction m with
  | zero =>
    intro q W I o5 o6 hq _ hT hW
    have e0 : I 136 0 = (c : Int) := (hT.1 0 (by omega)).trans hc
    have hsm : s < 1000000 := by omega
    refine ⟨I, some (.inl ((q : Int) - 1)), o5, o6, ?_, hW, fun _ _ => rfl⟩
    rw [zb_M_orders_88]
    simp only [if_true, if_false, Option.bind_some, Option.bind, Option.toList, List.cons_append, List.nil_append, zite0, zite1, zite01, znn, ite_not, true_or, or_true, true_and, and_true, zn10, zn00, zk_135 hL, zr_135_0 hL, z6_0 hL, z6_1 hL, z6_2 hL, z6_3 hL, z6_4 hL, e0]
    rw [if_neg (by omega), zw32n hsm]
  | succ m ih =>
    intro q W I o5 o6 hq hV hT hW
    have e0 : I 136 0 = (c : Int) := (hT.1 0 (by omega)).trans hc
    have e2 : I 136 1 = (T.2.1 : Int) := hT.2.1
    have hqc : (q : Int) - 1 < (c : Int) := by omega
    have hq100 : q < 100 := by omega
    have hqT : (q : Int) ≤ T.1 0 := by omega
    have hj : 7 * s + q < 7 * 2 ^ T.2.1 := by omega
    have hj896 : 7 * s + q < 896 := by omega
    have hix := zix2 (s := s) (p := (q : Int) - 1) (by omega) (by omega)
    rw [zpq2] at hix
    have hWj := hW _ hj
    have hW0 := (hV.1 _ hj).1
    have hV1 := zwg_ok ho hN hs hqT hV
    have key : zgo X (zcal X zP (d + 3)) zc_M_orders 88 [some (.inr (.inr (.inl 135))), some (.inl p), some (.inl ((2 ^ T.2.1 : Nat) : Int)), some (.inl (s : Int)), some (.inl ((q : Int) - 1)), o5, o6] [] (I, L) = zgo X (zcal X zP (d + 3)) zc_M_orders 118 [some (.inr (.inr (.inl 135))), some (.inl p), some (.inl ((2 ^ T.2.1 : Nat) : Int)), some (.inl (s : Int)), some (.inl ((q : Int) - 1)), some (.inl (W (7 * s + q))), some (.inl 0)] [] (I, L) := by
      rw [zb_M_orders_88]
      simp only [if_true, if_false, Option.bind_some, Option.bind, Option.toList, List.cons_append, List.nil_append, zite0, zite1, zite01, znn, ite_not, true_or, or_true, true_and, and_true, zn10, zn00, zk_135 hL, zr_135_0 hL, z6_0 hL, z6_1 hL, z6_2 hL, z6_3 hL, z6_4 hL, e0, eq_true hqc, zr_135_19 hL, hix, zc146 hL hj896, Int.toNat_natCast, hWj]
    by_cases c0 : W (7 * s + q) = 0
    · have eg : zwg T s q W = W := if_pos c0
      have ef : zfor (zwg T s) (m + 1) q W = zfor (zwg T s) m (q + 1) W := by rw [zfor_s, eg]
      rw [eg] at hV1
      obtain ⟨I', o4, o5', o6', q1, q2, q3⟩ := ih (q + 1) W I (some (.inl (W (7 * s + q)))) (some (.inl 0)) (by omega) hV1 hT hW
      rw [ef]
      refine ⟨I', o4, o5', o6', key.trans (Eq.trans ?_ q1), q2, q3⟩
      have hn0 : ¬ (0 : Int) < W (7 * s + q) := by omega
      rw [zb_M_orders_118]
      simp only [if_true, if_false, Option.bind_some, Option.bind, Option.toList, List.cons_append, List.nil_append, zite0, zite1, zite01, znn, ite_not, true_or, or_true, true_and, and_true, zn10, zn00, zk_135 hL, zr_135_0 hL, z6_0 hL, z6_1 hL, z6_2 hL, z6_3 hL, z6_4 hL, e2, eq_false hn0]
      rw [zpq1 hq100]
      split <;> rfl
    · have eg : zwg T s q W = zfor (zwy T s (W (7 * s + q)) ((q : Int) - 1)) T.2.1 0 W := if_neg c0
      obtain ⟨I1, o1, a1, a2, a3⟩ := zm_or_g (X := X) (d := d) hL ho hN (p := p) hs hqT (show 0 < W (7 * s + q) by omega) T.2.1 0 W I (by omega) hT hW
      rw [← eg] at a2
      obtain ⟨I', o4, o5', o6', q1, q2, q3⟩ := ih (q + 1) (zwg T s q W) I1 (some (.inl (W (7 * s + q)))) o1 (by omega) hV1 (zTM_row (a3 136 (by omega)) hT) a2
      exact ⟨I', o4, o5', o6', key.trans (a1.trans q1), q2, fun a ha => (q3 a ha).trans (a3 a ha)⟩
theorem zm_or_3 (hL : zLay L) (ho : zTOK n T) (hN : T.2.1 < 8) {p : Int} (hp : -1 ≤ p ∧ p < T.1 0) : ∀ (m s : Nat) (W : Nat → Int) (I : Nat → Nat → Int) (o4 o5 o6 : Option zV), s + m = 2 ^ T.2.1 → zInv T.2.1 W (7 * s) → zTM I 136 T → (∀ k, k < 7 * 2 ^ T.2.1 → I 146 k = W k) → ∃ I', zgo X (zcal X zP (d + 3)) zc_M_orders 80 [some (.inr (.inr (.inl 135))), some (.inl p), some (.inl ((2 ^ T.2.1 : Nat) : Int)), some (.inl (s : Int)), o4, o5, o6] [] (I, L) = some (some (.inl (zfor (zwst T) m s W (7 * (2 ^ T.2.1 - 1) + (p + 1).toNat))), (I', L)) ∧ ∀ a, a ≠ 146 → I' a = I a := by
  obtain ⟨f1, f2, f3⟩ := zof2 T.2.1 hN
  have h06 := ho.1
  intro m
  induction m with
  | zero =>
    intro s W I o4 o5 o6 hs _ hT hW
    have hk : 7 * (2 ^ T.2.1 - 1) + (p + 1).toNat < 7 * 2 ^ T.2.1 := by omega
    have hk8 : 7 * (2 ^ T.2.1 - 1) + (p + 1).toNat < 896 := by omega
    have hv := hW _ hk
    have hns : ¬ (s : Int) < ((2 ^ T.2.1 : Nat) : Int) := by omega
    have hix := zix2 (s := 2 ^ T.2.1 - 1) (p := p) (by omega) (by omega)
    refine ⟨I, ?_, fun _ _ => rfl⟩
    rw [zb_M_orders_80, if_neg hns]
    simp only [if_true, if_false, Option.bind_some, Option.bind, Option.toList, List.cons_append, List.nil_append, zite0, zite1, zite01, znn, ite_not, true_or, or_true, true_and, and_true, zn10, zn00, zk_135 hL, zr_135_0 hL, z6_0 hL, z6_1 hL, z6_2 hL, z6_3 hL, z6_4 hL, zr_135_19 hL, zmm1 (show 1 ≤ 2 ^ T.2.1 ∧ 2 ^ T.2.1 < 200 by omega), hix, zc146 hL hk8, Int.toNat_natCast, hv]
    try rfl
  | succ m ih =>
    intro s W I o4 o5 o6 hs hV hT hW
    obtain ⟨c, hc⟩ := Int.eq_ofNat_of_zero_le (show 0 ≤ T.1 0 by omega)
    have hss : (s : Int) < ((2 ^ T.2.1 : Nat) : Int) := by omega
    obtain ⟨I1, b4, b5, b6, a1, a2, a3⟩ := zm_or_2 (X := X) (d := d) hL ho hN (p := p) (s := s) hc (by omega) (c + 1) 0 W I o5 o6 (by omega) hV hT hW
    have ew : zfor (zwg T s) (c + 1) 0 W = zwst T s W := by
      unfold zwst
      rw [hc, Int.toNat_natCast]
    rw [ew] at a2
    obtain ⟨I', q1, q2⟩ := ih (s + 1) (zwst T s W) I1 b4 b5 b6 (by omega) (zwst_ok ho hN (by omega) hV) (zTM_row (a3 136 (by omega)) hT) a2
    refine ⟨I', ?_, fun a ha => (q2 a ha).trans (a3 a ha)⟩
    rw [zb_M_orders_80, if_pos hss]
    exact a1.trans q1
theorem zm_orders (hL : zLay L) (ho : zSOK n S) {p : Int} : zHM X L (d + 4) 194 [.inl p] S (zr_orders S p) := by
  intro I hr
  have e2 : I 136 1 = (S.1.2.1 : Int) := hr.1.2.1
  have hb := zq_M_isWhere (X := X) (d := d + 1) (v := p) hL hr.1 ho.1
  unfold zr_orders
  by_cases hp : -1 ≤ p ∧ p ≤ S.1.1 0 - 1
  · rw [if_pos hp] at hb ⊢
    by_cases h7 : 7 < S.1.2.1
    · rw [if_pos h7]
      obtain ⟨J, h1, h2, h3⟩ := zM_findsc (X := X) (d := d + 2) (k := 6) (c := -1000007) (k' := 6) hL ho (by omega) (by omega) (by omega) hr
      refine ⟨J, ?_, h2, h3⟩
      refine ((zcal_go zp_M_orders rfl).trans zb_M_orders_0).trans ?_
      simp only [if_true, if_false, Option.bind_some, Option.bind, Option.toList, List.cons_append, List.nil_append, zite0, zite1, zite01, znn, ite_not, true_or, or_true, true_and, and_true, zn10, zn00, zk_135 hL, zr_135_0 hL, z6_0 hL, z6_1 hL, z6_2 hL, z6_3 hL, z6_4 hL, hb, zb_M_orders_5, e2, eq_true (show (7 : Int) < (S.1.2.1 : Int) by omega), h1, zb_M_orders_31]
    · rw [if_neg h7]
      have hn7 : ¬ (7 : Int) < (S.1.2.1 : Int) := by omega
      have hN : S.1.2.1 < 8 := by omega
      obtain ⟨f1, f2, f3⟩ := zof2 S.1.2.1 hN
      have h06 := ho.1.1
      have hbg := ho.1.2.1
      have esh : zshl 1 (S.1.2.1 : Int) = ((2 ^ S.1.2.1 : Nat) : Int) := zbt4 S.1.2.1 (by omega)
      obtain ⟨I1, a1, a2, a3⟩ := zm_or_1 (X := X) (C := zcal X zP (d + 3)) hL (p := p) f3 (7 * 2 ^ S.1.2.1) 0 I (by omega)
      have hT1 : zTM I1 136 S.1 := zTM_row (funext fun j => a2 136 j (by omega)) hr.1
      have e1 : I1 136 2 = S.1.1 2 := hT1.1 2 (by omega)
      have hj : (S.1.1 2 + 1).toNat < 896 := by omega
      have hM : 2 ^ S.1.2.1 < 200 := by omega
      have hwz : w32 (S.1.1 2 + 1) = (((S.1.1 2 + 1).toNat : Nat) : Int) := by rw [zw32 (by omega) (by omega)]; omega
      obtain ⟨I', q1, q2⟩ := zm_or_3 (X := X) (d := d) hL ho.1 hN (p := p) (by omega) (2 ^ S.1.2.1) 0 (zW00 (S.1.1 2)) (zwI I1 146 (S.1.1 2 + 1).toNat 1) none none none (by omega) (zW00_ok ho.1 hN) (zTM_row (zwI_row (by omega)) hT1) (fun k hk => by
        rw [zwI_if]
        unfold zW00
        by_cases e : k = (S.1.1 2 + 1).toNat
        · rw [if_pos ⟨rfl, e⟩, if_pos e]
        · rw [if_neg (fun x => e x.2), if_neg e]; exact a3 k (by omega) hk)
      have fr : ∀ a, a ≠ 146 → I' a = I a := fun a ha => (q2 a ha).trans ((zwI_row ha).trans (funext fun j => a2 a j (by omega)))
      refine ⟨I', ?_, zRM_scr (fun a _ h => fr a (by omega)) hr, fun a ha => fr a (by omega)⟩
      have k1 : zcal X zP (d + 4) 194 [.inr (.inr (.inl 135)), .inl p] (I, L) = zgo X (zcal X zP (d + 3)) zc_M_orders 43 [some (.inr (.inr (.inl 135))), some (.inl p), some (.inl ((2 ^ S.1.2.1 : Nat) : Int)), some (.inl 0), none, none, none] [] (I, L) := by
        refine ((zcal_go zp_M_orders rfl).trans zb_M_orders_0).trans ?_
        simp only [if_true, if_false, Option.bind_some, Option.bind, Option.toList, List.cons_append, List.nil_append, zite0, zite1, zite01, znn, ite_not, true_or, or_true, true_and, and_true, zn10, zn00, zk_135 hL, zr_135_0 hL, z6_0 hL, z6_1 hL, z6_2 hL, z6_3 hL, z6_4 hL, hb, zb_M_orders_5, e2, eq_false hn7, esh]
      refine k1.trans (a1.trans ?_)
      rw [zb_M_orders_43, zm72 hM, if_neg (Int.lt_irrefl _)]
      simp only [if_true, if_false, Option.bind_some, Option.bind, Option.toList, List.cons_append, List.nil_append, zite0, zite1, zite01, znn, ite_not, true_or, or_true, true_and, and_true, zn10, zn00, zk_135 hL, zr_135_0 hL, z6_0 hL, z6_1 hL, z6_2 hL, z6_3 hL, z6_4 hL, zr_135_19 hL, e1, hwz, zc146 hL hj, Int.toNat_natCast, zw_I]
      exact q1
  · rw [if_neg hp] at hb ⊢
    obtain ⟨J, h1, h2, h3⟩ := zM_findsc (X := X) (d := d + 2) (k := 0) (c := -1000001) (k' := 0) hL ho (by omega) (by omega) (by omega) hr
    refine ⟨J, ?_, h2, h3⟩
    refine ((zcal_go zp_M_orders rfl).trans zb_M_orders_0).trans ?_
    simp only [if_true, if_false, Option.bind_some, Option.bind, Option.toList, List.cons_append, List.nil_append, zite0, zite1, zite01, znn, ite_not, true_or, or_true, true_and, and_true, zn10, zn00, zk_135 hL, zr_135_0 hL, z6_0 hL, z6_1 hL, z6_2 hL, z6_3 hL, z6_4 hL, hb, zb_M_orders_5, h1, zb_M_orders_13]
theorem zo_orders (ho : zSOK n S) (hn : n < 100000) {p : Int} : zSOK (n + 1) (zr_orders S p).2 := by
  unfold zr_orders
  exact zif2 (fun _ => zif2 (fun _ => zSOK_f ho (by omega) hn) (fun _ => zSOK_up ho hn)) (fun _ => zSOK_f ho (by omega) hn)
theorem zA24 (hL : zLay L) : zA_24 X L := fun n a1 _ S ho hn => zCI (zr_orders S a1) (by unfold zr_orders; repeat' (first | exact ⟨_, rfl⟩ | refine zif1 ?_ ?_)) (zx_orders (d := 33) hL ho) (zm_orders (d := 36) hL ho) (zo_orders ho hn)
end
