/-! CONTRACTS OF CALLS: orders. -/
theorem zix {s : Nat} {p : Int} (hs : s < 200) (hp : -1 ≤ p ∧ p < 7) : w32 ((w32 ((w32 ((s : Int) * 7)) + p)) + 1) = ((7 * s + (p + 1).toNat : Nat) : Int) := by unfold w32; omega
theorem zix2 {s : Nat} {p : Int} (hs : s < 200) (hp : -1 ≤ p ∧ p < 7) : w32 ((w32 ((w32 (7 * (s : Int))) + p)) + 1) = ((7 * s + (p + 1).toNat : Nat) : Int) := by unfold w32; omega
theorem zm7 {M : Nat} (h : M < 200) : w32 ((M : Int) * 7) = ((7 * M : Nat) : Int) := by unfold w32; omega
theorem zm72 {M : Nat} (h : M < 200) : w32 (7 * (M : Int)) = ((7 * M : Nat) : Int) := by unfold w32; omega
theorem zmm1 {M : Nat} (h : 1 ≤ M ∧ M < 200) : w32 ((M : Int) - 1) = ((M - 1 : Nat) : Int) := by unfold w32; omega
theorem zpq1 {q : Nat} (h : q < 100) : w32 (((q : Int) - 1) + 1) = ((q + 1 : Nat) : Int) - 1 := by unfold w32; omega
theorem zpq2 {q : Nat} : ((q : Int) - 1 + 1).toNat = q := by omega
section
variable {X : zX} {C : zC} {d n : Nat} {L : zLt} {S : zSt} {T : zTb} {I : Nat → Nat → Int}
theorem zc122 (hL : zLay L) {i : Nat} (h : i < 896) : ((L.2.1 122).1 = 2 ∧ 0 ≤ (i : Int) ∧ (i : Int) < ((L.2.1 122).2.1 : Int)) = True := by
  rw [zk_122 hL]
  exact eq_true ⟨rfl, by omega, by show (i : Int) < ((896 : Nat) : Int); omega⟩
theorem zc146 (hL : zLay L) {i : Nat} (h : i < 896) : ((L.2.1 146).1 = 2 ∧ 0 ≤ (i : Int) ∧ (i : Int) < ((L.2.1 146).2.1 : Int)) = True := by
  rw [zk_146 hL]
  exact eq_true ⟨rfl, by omega, by show (i : Int) < ((896 : Nat) : Int); omega⟩
theorem zq_index {σ : zMem} {s : Nat} {p : Int} (hs : s < 200) (hp : -1 ≤ p ∧ p < 7) : zcal X zP (d + 1) 4 [.inl (s : Int), .inl p] σ = some (some (.inl ((7 * s + (p + 1).toNat : Nat) : Int)), σ) := by
  refine ((zcal_go zp_Orders_index rfl).trans zb_Orders_index_0).trans ?_
  rw [zix hs hp]
theorem zup_in {J : Nat → Nat → Int} {c : Nat} {W : Nat → Int} {Z j : Nat} {so : Int} (h : ∀ k, k < Z → J c k = W k) (hj : j < Z) : ∀ k, k < Z → zwI J c j (w32 (J c j + so)) c k = zup W j so k := by
  intro k hk
  rw [zwI_if]
  unfold zup
  by_cases e : k = j
  · rw [if_pos ⟨rfl, e⟩, if_pos e, h j hj, e]
  · rw [if_neg (fun x => e x.2), if_neg e]; exact h k hk
theorem zx_goOn_l (hL : zLay L) (ho : zTOK n T) (hN : T.2.1 < 8) {s : Nat} {so pea : Int} (hs : s < 2 ^ T.2.1) (hp : -1 ≤ pea ∧ pea < T.1 0) : ∀ (m i : Nat) (W : Nat → Int) (I : Nat → Nat → Int), i + m = T.2.1 → zTC I 2 T → (∀ k, k < 7 * 2 ^ T.2.1 → I 122 k = W k) → ∃ I', zgo X (zcal X zP (d + 4)) zc_Orders_goOn 21 [some (.inr (.inr (.inl 121))), some (.inr (.inr (.inl 2))), some (.inl (s : Int)), some (.inl pea), some (.inl so), some (.inl (i : Int))] [] (I, L) = some (none, (I', L)) ∧ (∀ k, k < 7 * 2 ^ T.2.1 → I' 122 k = zfor (zwy T s so pea) m i W k) ∧ ∀ a, a ≠ 122 → I' a = I a := by
  obtain ⟨f1, f2, f3⟩ := zof2 T.2.1 hN
  intro m
  induction m with
  | zero =>
    intro i W I hi hT hW
    have e2 : I 2 2 = (T.2.1 : Int) := hT.2.2.1
    refine ⟨I, ?_, hW, fun _ _ => rfl⟩
    rw [zb_Orders_goOn_21]
    simp only [if_true, if_false, Option.bind_some, Option.bind, Option.toList, List.cons_append, List.nil_append, zite0, zite1, zite01, znn, ite_not, true_or, or_true, true_and, and_true, zn10, zn00, zk_2 hL, e2]
    rw [if_neg (by omega)]
  | succ m ih =>
    intro i W I hi hT hW
    have e2 : I 2 2 = (T.2.1 : Int) := hT.2.2.1
    have hi14 : i < 14 := by omega
    have hiN : i < T.2.1 := by omega
    have him : i < 1000000 := by omega
    have hii : (i : Int) < (T.2.1 : Int) := by omega
    have hs1024 : s < 1024 := by omega
    obtain ⟨l3, l4⟩ := zp14 hL hi14
    obtain ⟨p1, p2, p3⟩ := hT.2.2.2.2.2.1 i hiN
    obtain ⟨-, -, -, o7⟩ := ho.2.2.2.2.2.1 i hiN
    have hpb := zq_Pass_peaBehind (X := X) (d := d) (σ := (I, L)) (p := 7 + i) (v := pea) l4 (by show I (2 + 5 + i) 1 ≠ I (2 + 5 + i) 2; rw [p2, p3]; exact o7)
    have p1 : I (7 + i) 0 = _ := p1
    have p2 : I (7 + i) 1 = _ := p2
    have p3 : I (7 + i) 2 = _ := p3
    have hb := zbt1 s hs1024 i hi14
    have ez : zfor (zwy T s so pea) (m + 1) i W = zfor (zwy T s so pea) m (i + 1) (if s / 2 ^ i % 2 = 1 then W else zup W (zwj T s i pea) so) := rfl
    rw [ez]
    by_cases c : s / 2 ^ i % 2 = 1
    · obtain ⟨I', q1, q2, q3⟩ := ih (i + 1) W I (by omega) hT hW
      have hb0 : ¬ zand (s : Int) (zshl 1 (i : Int)) = 0 := fun h => hb.mp h c
      rw [if_pos c]
      refine ⟨I', ?_, q2, q3⟩
      rw [zb_Orders_goOn_21]
      simp only [if_true, if_false, Option.bind_some, Option.bind, Option.toList, List.cons_append, List.nil_append, zite0, zite1, zite01, znn, ite_not, true_or, or_true, true_and, and_true, zn10, zn00, zk_2 hL, e2, eq_true hii, eq_false hb0]
      rw [zw32n him]
      exact q1
    · have hb0 : zand (s : Int) (zshl 1 (i : Int)) = 0 := hb.mpr c
      obtain ⟨g1, g2, g3⟩ := (zof3 T.2.1 hN s hs i hiN).resolve_left c
      obtain ⟨j1, j2, j3, j4⟩ := zwj_ok ho hN hs hiN c hp
      have hj896 : zwj T s i pea < 896 := by omega
      obtain ⟨I', q1, q2, q3⟩ := ih (i + 1) (zup W (zwj T s i pea) so) (zwI I 122 (zwj T s i pea) (w32 (I 122 (zwj T s i pea) + so))) (by omega) (zTC_row (by omega) (fun a _ ha => zwI_row (by omega)) hT) (zup_in hW j1)
      have hsi : s + 2 ^ i < 200 := Nat.lt_of_lt_of_le g1 (by omega)
      have hix := zq_index (X := X) (d := d + 3) (σ := (I, L)) hsi (show -1 ≤ zpea (T.2.2 i).1 (T.2.2 i).2.1 (T.2.2 i).2.2 pea ∧ zpea (T.2.2 i).1 (T.2.2 i).2.1 (T.2.2 i).2.2 pea < 7 by omega)
      have hix : _ = some (some (Sum.inl ((zwj T s i pea : Nat) : Int)), (I, L)) := hix
      rw [if_neg c]
      refine ⟨I', ?_, q2, fun a ha => (q3 a ha).trans (zwI_row ha)⟩
      rw [zb_Orders_goOn_21]
      simp only [if_true, if_false, Option.bind_some, Option.bind, Option.toList, List.cons_append, List.nil_append, zite0, zite1, zite01, znn, ite_not, true_or, or_true, true_and, and_true, zn10, zn00, zk_2 hL, e2, eq_true hii, eq_true hb0, zk_121 hL, zr_2_5 hL, zc3 hL hi14, Int.toNat_natCast, l3, l4, hpb, p1, p2, p3, g3, zb_Orders_goOn_60, hix, zb_Orders_goOn_63, zr_121_0 hL, zc122 hL hj896, zw_I]
      rw [zw32n him]
      exact q1
theorem zq_goOn (hL : zLay L) (ho : zTOK n T) (hN : T.2.1 < 8) {s q : Nat} {W : Nat → Int} (hs : s < 2 ^ T.2.1) (hq : (q : Int) ≤ T.1 0) (hT : zTC I 2 T) (hW : ∀ k, k < 7 * 2 ^ T.2.1 → I 122 k = W k) : ∃ I', zcal X zP (d + 5) 3 [.inr (.inr (.inl 121)), .inr (.inr (.inl 2)), .inl (s : Int), .inl ((q : Int) - 1)] (I, L) = some (none, (I', L)) ∧ (∀ k, k < 7 * 2 ^ T.2.1 → I' 122 k = zwg T s q W k) ∧ ∀ a, a ≠ 122 → I' a = I a := by
  obtain ⟨f1, f2, f3⟩ := zof2 T.2.1 hN
  have h06 := ho.1
  have hj : 7 * s + q < 7 * 2 ^ T.2.1 := by omega
  have hj896 : 7 * s + q < 896 := by omega
  have hix := zq_index (X := X) (d := d + 3) (σ := (I, L)) (s := s) (p := (q : Int) - 1) (by omega) (by omega)
  rw [zpq2] at hix
  have hWj := hW _ hj
  unfold zwg
  by_cases c : W (7 * s + q) = 0
  · rw [if_pos c]
    refine ⟨I, ?_, hW, fun _ _ => rfl⟩
    rw [c] at hWj
    refine ((zcal_go zp_Orders_goOn rfl).trans zb_Orders_goOn_0).trans ?_
    simp only [if_true, if_false, Option.bind_some, Option.bind, Option.toList, List.cons_append, List.nil_append, zite0, zite1, zite01, znn, ite_not, true_or, or_true, true_and, and_true, zn10, zn00, zk_121 hL, zr_121_0 hL, hix, zb_Orders_goOn_9, zc122 hL hj896, Int.toNat_natCast, hWj]
  · obtain ⟨I', q1, q2, q3⟩ := zx_goOn_l (X := X) (d := d) hL ho hN (so := W (7 * s + q)) (pea := (q : Int) - 1) hs (by omega) T.2.1 0 W I (by omega) hT hW
    rw [if_neg c]
    refine ⟨I', ?_, q2, q3⟩
    refine ((zcal_go zp_Orders_goOn rfl).trans zb_Orders_goOn_0).trans ?_
    simp only [if_true, if_false, Option.bind_some, Option.bind, Option.toList, List.cons_append, List.nil_append, zite0, zite1, zite01, znn, ite_not, true_or, or_true, true_and, and_true, zn10, zn00, zk_121 hL, zr_121_0 hL, hix, zb_Orders_goOn_9, zc122 hL hj896, Int.toNat_natCast, hWj, eq_false c]
    exact q1
theorem zx_te_1 (hL : zLay L) {p : Int} {M : Nat} (hM : M ≤ 128) : ∀ (m i : Nat) (I : Nat → Nat → Int), i + m = 7 * M → ∃ I', zgo X C zc_Orders_thatEnd 15 [some (.inr (.inr (.inl 121))), some (.inr (.inr (.inl 2))), some (.inl p), some (.inl (M : Int)), some (.inl (i : Int)), none] [] (I, L) = zgo X C zc_Orders_thatEnd 15 [some (.inr (.inr (.inl 121))), some (.inr (.inr (.inl 2))), some (.inl p), some (.inl (M : Int)), some (.inl ((7 * M : Nat) : Int)), none] [] (I', L) ∧ (∀ a j, (a ≠ 122 ∨ j < i) → I' a j = I a j) ∧ ∀ k, i ≤ k → k < 7 * M → I' 122 k = 0 := by
  intro m
  induction m with
  | zero =>
    intro i I hi
    have hi : i = 7 * M := hi
    rw [hi]
    exact ⟨I, rfl, fun _ _ _ => rfl, fun k h1 h2 => absurd h1 (by omega)⟩
  | succ m ih =>
    intro i I hi
    obtain ⟨I', q1, q2, q3⟩ := ih (i + 1) (zwI I 122 i 0) (by omega)
    have hii : (i : Int) < ((7 * M : Nat) : Int) := by omega
    have him : i < 1000000 := by omega
    have hi8 : i < 896 := by omega
    refine ⟨I', Eq.trans ?_ q1, fun a j h => (q2 a j (by omega)).trans (by rw [zwI_if, if_neg (by omega)]), fun k h1 h2 => ?_⟩
    · rw [zb_Orders_thatEnd_15, zm7 (show M < 200 by omega), if_pos hii]
      simp only [if_true, if_false, Option.bind_some, Option.bind, Option.toList, List.cons_append, List.nil_append, zite0, zite1, zite01, znn, ite_not, true_or, or_true, true_and, and_true, zn10, zn00, zk_121 hL, zr_121_0 hL, zc122 hL hi8, Int.toNat_natCast, zw_I]
      rw [zw32n him]
    · by_cases e : k = i
      · rw [e, q2 _ _ (by omega), zwI_eq]
      · exact q3 k (by omega) h2
theorem zx_te_2 (hL : zLay L) (ho : zTOK n T) (hN : T.2.1 < 8) {p : Int} {s c : Nat} (hc : T.1 0 = (c : Int)) (hs : s < 2 ^ T.2.1) : ∀ (m q : Nat) (W : Nat → Int) (I : Nat → Nat → Int), q + m = c + 1 → zTC I 2 T → (∀ k, k < 7 * 2 ^ T.2.1 → I 122 k = W k) → ∃ I' o, zgo X (zcal X zP (d + 5)) zc_Orders_thatEnd 64 [some (.inr (.inr (.inl 121))), some (.inr (.inr (.inl 2))), some (.inl p), some (.inl ((2 ^ T.2.1 : Nat) : Int)), some (.inl (s : Int)), some (.inl ((q : Int) - 1))] [] (I, L) = zgo X (zcal X zP (d + 5)) zc_Orders_thatEnd 55 [some (.inr (.inr (.inl 121))), some (.inr (.inr (.inl 2))), some (.inl p), some (.inl ((2 ^ T.2.1 : Nat) : Int)), some (.inl ((s + 1 : Nat) : Int)), o] [] (I', L) ∧ (∀ k, k < 7 * 2 ^ T.2.1 → I' 122 k = zfor (zwg T s) m q W k) ∧ ∀ a, a ≠ 122 → I' a = I a := by
  obtain ⟨f1, f2, f3⟩ := zof2 T.2.1 hN
  have h06 := ho.1
  intro m
  induction m with
  | zero =>
    intro q W I hq hT hW
    have e0 : I 2 0 = (c : Int) := hT.1.trans hc
    have hsm : s < 1000000 := by omega
    refine ⟨I, some (.inl ((q : Int) - 1)), ?_, hW, fun _ _ => rfl⟩
    rw [zb_Orders_thatEnd_64]
    simp only [if_true, if_false, Option.bind_some, Option.bind, Option.toList, List.cons_append, List.nil_append, zite0, zite1, zite01, znn, ite_not, true_or, or_true, true_and, and_true, zn10, zn00, zk_2 hL, e0]
    rw [if_neg (by omega), zw32n hsm]
  | succ m ih =>
    intro q W I hq hT hW
    have e0 : I 2 0 = (c : Int) := hT.1.trans hc
    have hqc : (q : Int) - 1 < (c : Int) := by omega
    have hq100 : q < 100 := by omega
    obtain ⟨I1, a1, a2, a3⟩ := zq_goOn (X := X) (d := d) hL ho hN hs (show (q : Int) ≤ T.1 0 by omega) hT hW
    obtain ⟨I', o, q1, q2, q3⟩ := ih (q + 1) (zwg T s q W) I1 (by omega) (zTC_row (by omega) (fun a _ ha => a3 a (by omega)) hT) a2
    refine ⟨I', o, ?_, q2, fun a ha => (q3 a ha).trans (a3 a ha)⟩
    rw [zb_Orders_thatEnd_64]
    simp only [if_true, if_false, Option.bind_some, Option.bind, Option.toList, List.cons_append, List.nil_append, zite0, zite1, zite01, znn, ite_not, true_or, or_true, true_and, and_true, zn10, zn00, zk_2 hL, e0, eq_true hqc, zk_121 hL, a1, zb_Orders_thatEnd_82]
    rw [zpq1 hq100]
    exact q1
theorem zx_te_3 (hL : zLay L) (ho : zTOK n T) (hN : T.2.1 < 8) {p : Int} (hp : -1 ≤ p ∧ p < T.1 0) : ∀ (m s : Nat) (W : Nat → Int) (I : Nat → Nat → Int) (o : Option zV), s + m = 2 ^ T.2.1 → zTC I 2 T → (∀ k, k < 7 * 2 ^ T.2.1 → I 122 k = W k) → ∃ I', zgo X (zcal X zP (d + 5)) zc_Orders_thatEnd 55 [some (.inr (.inr (.inl 121))), some (.inr (.inr (.inl 2))), some (.inl p), some (.inl ((2 ^ T.2.1 : Nat) : Int)), some (.inl (s : Int)), o] [] (I, L) = some (some (.inl (zfor (zwst T) m s W (7 * (2 ^ T.2.1 - 1) + (p + 1).toNat))), (I', L)) ∧ ∀ a, a ≠ 122 → I' a = I a := by
  obtain ⟨f1, f2, f3⟩ := zof2 T.2.1 hN
  have h06 := ho.1
  intro m
  induction m with
  | zero =>
    intro s W I o hs hT hW
    have hk : 7 * (2 ^ T.2.1 - 1) + (p + 1).toNat < 7 * 2 ^ T.2.1 := by omega
    have hk8 : 7 * (2 ^ T.2.1 - 1) + (p + 1).toNat < 896 := by omega
    have hix := zq_index (X := X) (d := d + 4) (σ := (I, L)) (s := 2 ^ T.2.1 - 1) (p := p) (by omega) (by omega)
    have hv := hW _ hk
    have hns : ¬ (s : Int) < ((2 ^ T.2.1 : Nat) : Int) := by omega
    refine ⟨I, ?_, fun _ _ => rfl⟩
    rw [zb_Orders_thatEnd_55, if_neg hns]
    simp only [if_true, if_false, Option.bind_some, Option.bind, Option.toList, List.cons_append, List.nil_append, zite0, zite1, zite01, znn, ite_not, true_or, or_true, true_and, and_true, zn10, zn00, zk_121 hL, zr_121_0 hL, zmm1 (show 1 ≤ 2 ^ T.2.1 ∧ 2 ^ T.2.1 < 200 by omega), hix, zb_Orders_thatEnd_105, zc122 hL hk8, Int.toNat_natCast, hv]
    try rfl
  | succ m ih =>
    intro s W I o hs hT hW
    obtain ⟨c, hc⟩ := Int.eq_ofNat_of_zero_le (show 0 ≤ T.1 0 by omega)
    have hss : (s : Int) < ((2 ^ T.2.1 : Nat) : Int) := by omega
    obtain ⟨I1, o1, a1, a2, a3⟩ := zx_te_2 (X := X) (d := d) hL ho hN (p := p) (s := s) hc (by omega) (c + 1) 0 W I (by omega) hT hW
    have ew : zfor (zwg T s) (c + 1) 0 W = zwst T s W := by
      unfold zwst
      rw [hc, Int.toNat_natCast]
    rw [ew] at a2
    obtain ⟨I', q1, q2⟩ := ih (s + 1) (zwst T s W) I1 o1 (by omega) (zTC_row (by omega) (fun a _ ha => a3 a (by omega)) hT) a2
    refine ⟨I', ?_, fun a ha => (q2 a ha).trans (a3 a ha)⟩
    rw [zb_Orders_thatEnd_55, if_pos hss]
    exact a1.trans q1
def zord (T : zTb) (p : Int) : Int := zfor (zwst T) (2 ^ T.2.1) 0 (zW00 (T.1 2)) (7 * (2 ^ T.2.1 - 1) + (p + 1).toNat)
theorem zq_thatEnd (hL : zLay L) (ho : zTOK n T) (hN : T.2.1 < 8) {p : Int} (hp : -1 ≤ p ∧ p < T.1 0) (hT : zTC I 2 T) : ∃ I', zcal X zP (d + 6) 2 [.inr (.inr (.inl 121)), .inr (.inr (.inl 2)), .inl p] (I, L) = some (some (.inl (zord T p)), (I', L)) ∧ ∀ a, a ≠ 122 → I' a = I a := by
  obtain ⟨f1, f2, f3⟩ := zof2 T.2.1 hN
  have h06 := ho.1
  have hb := ho.2.1
  have e2 : I 2 2 = (T.2.1 : Int) := hT.2.2.1
  have esh : zshl 1 (T.2.1 : Int) = ((2 ^ T.2.1 : Nat) : Int) := zbt4 T.2.1 (by omega)
  obtain ⟨I1, a1, a2, a3⟩ := zx_te_1 (X := X) (C := zcal X zP (d + 5)) hL (p := p) f3 (7 * 2 ^ T.2.1) 0 I (by omega)
  have hT1 : zTC I1 2 T := zTC_row (by omega) (fun a _ ha => funext fun j => a2 a j (by omega)) hT
  have e1 : I1 2 1 = T.1 2 := hT1.2.1
  have hj : (T.1 2 + 1).toNat < 896 := by omega
  have hix := zq_index (X := X) (d := d + 4) (σ := (I1, L)) (s := 0) (p := T.1 2) (by omega) (by omega)
  have hix : zcal X zP (d + 5) 4 [.inl 0, .inl (T.1 2)] (I1, L) = some (some (.inl (((T.1 2 + 1).toNat : Nat) : Int)), (I1, L)) := by rw [show (T.1 2 + 1).toNat = 7 * 0 + (T.1 2 + 1).toNat by omega]; exact hix
  obtain ⟨I', q1, q2⟩ := zx_te_3 (X := X) (d := d) hL ho hN hp (2 ^ T.2.1) 0 (zW00 (T.1 2)) (zwI I1 122 (T.1 2 + 1).toNat 1) none (by omega) (zTC_row (by omega) (fun a _ ha => zwI_row (by omega)) hT1) (fun k hk => by
    rw [zwI_if]
    unfold zW00
    by_cases e : k = (T.1 2 + 1).toNat
    · rw [if_pos ⟨rfl, e⟩, if_pos e]
    · rw [if_neg (fun x => e x.2), if_neg e]; exact a3 k (by omega) hk)
  have hn7 : ¬ (7 : Int) < (T.2.1 : Int) := by omega
  have hM : 2 ^ T.2.1 < 200 := by omega
  refine ⟨I', ?_, fun a ha => (q2 a ha).trans ((zwI_row ha).trans (funext fun j => a2 a j (by omega)))⟩
  have k1 : zcal X zP (d + 6) 2 [.inr (.inr (.inl 121)), .inr (.inr (.inl 2)), .inl p] (I, L) = zgo X (zcal X zP (d + 5)) zc_Orders_thatEnd 15 [some (.inr (.inr (.inl 121))), some (.inr (.inr (.inl 2))), some (.inl p), some (.inl ((2 ^ T.2.1 : Nat) : Int)), some (.inl 0), none] [] (I, L) := by
    refine ((zcal_go zp_Orders_thatEnd rfl).trans zb_Orders_thatEnd_0).trans ?_
    simp only [if_true, if_false, Option.bind_some, Option.bind, Option.toList, List.cons_append, List.nil_append, zite0, zite1, zite01, znn, ite_not, true_or, or_true, true_and, and_true, zn10, zn00, zk_2 hL, e2, eq_false hn7, esh]
  refine k1.trans (a1.trans ?_)
  rw [zb_Orders_thatEnd_15, zm7 hM, if_neg (Int.lt_irrefl _)]
  simp only [if_true, if_false, Option.bind_some, Option.bind, Option.toList, List.cons_append, List.nil_append, zite0, zite1, zite01, znn, ite_not, true_or, or_true, true_and, and_true, zn10, zn00, zk_121 hL, zk_2 hL, zr_121_0 hL, e1, hix, zb_Orders_thatEnd_50, zc122 hL hj, Int.toNat_natCast, zw_I]
  exact q1
def zr_orders (S : zSt) (p : Int) : zV × zSt := if -1 ≤ p ∧ p ≤ S.1.1 0 - 1 then (if 7 < S.1.2.1 then (.inl (-1000007), zSf S 6) else (.inl (zord S.1 p), S)) else (.inl (-1000001), zSf S 0)
theorem zx_orders (hL : zLay L) (ho : zSOK n S) {p : Int} : zHX X L (d + 7) 94 [.inl p] S (zr_orders S p) := by
  intro I hr
  have e2 : I 2 2 = (S.1.2.1 : Int) := hr.1.2.2.1
  have hb := zq_X_isPlaceOrHand (X := X) (d := d + 3) (v := p) hL hr.1 ho.1
  unfold zr_orders
  by_cases hp : -1 ≤ p ∧ p ≤ S.1.1 0 - 1
  · rw [if_pos hp] at hb ⊢
    by_cases h7 : 7 < S.1.2.1
    · rw [if_pos h7]
      obtain ⟨J, h1, h2, h3⟩ := zX_tellc (X := X) (d := d + 5) (k := 6) (c := -1000007) hL ho (by omega) (by omega) hr
      refine ⟨J, ?_, h2, h3⟩
      refine ((zcal_go zp_X_orders rfl).trans zb_X_orders_0).trans ?_
      simp only [if_true, if_false, Option.bind_some, Option.bind, Option.toList, List.cons_append, List.nil_append, zite0, zite1, zite01, znn, ite_not, true_or, or_true, true_and, and_true, zn10, zn00, zk_1 hL, zr_1_0 hL, zk_2 hL, hb, zb_X_orders_5, e2, eq_true (show (7 : Int) < (S.1.2.1 : Int) by omega), h1, zb_X_orders_33]
    · rw [if_neg h7]
      have hn7 : ¬ (7 : Int) < (S.1.2.1 : Int) := by omega
      obtain ⟨I', q1, q2⟩ := zq_thatEnd (X := X) (d := d) hL ho.1 (by omega) (p := p) (by omega) hr.1
      refine ⟨I', ?_, zRX_scr ho (fun a ha => q2 a (by omega)) hr, fun a ha => q2 a (by omega)⟩
      refine ((zcal_go zp_X_orders rfl).trans zb_X_orders_0).trans ?_
      simp only [if_true, if_false, Option.bind_some, Option.bind, Option.toList, List.cons_append, List.nil_append, zite0, zite1, zite01, znn, ite_not, true_or, or_true, true_and, and_true, zn10, zn00, zk_1 hL, zr_1_0 hL, zk_2 hL, hb, zb_X_orders_5, e2, eq_false hn7, zr_1_7 hL, zk_121 hL, q1, zb_X_orders_46]
  · rw [if_neg hp] at hb ⊢
    obtain ⟨J, h1, h2, h3⟩ := zX_tellc (X := X) (d := d + 5) (k := 0) (c := -1000001) hL ho (by omega) (by omega) hr
    refine ⟨J, ?_, h2, h3⟩
    refine ((zcal_go zp_X_orders rfl).trans zb_X_orders_0).trans ?_
    simp only [if_true, if_false, Option.bind_some, Option.bind, Option.toList, List.cons_append, List.nil_append, zite0, zite1, zite01, znn, ite_not, true_or, or_true, true_and, and_true, zn10, zn00, zk_1 hL, zr_1_0 hL, zk_2 hL, hb, zb_X_orders_5, h1, zb_X_orders_14]
end
