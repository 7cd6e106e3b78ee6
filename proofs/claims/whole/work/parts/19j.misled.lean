/-! MISLED: the reference finds it. -/
section
variable {X : zX} {C : zC} {d n nn sz c e : Nat} {k s : Int} {L : zLt} {S : zSt} {T : zTb} {I : Nat → Nat → Int}
theorem zfm_e (hL : zLay L) (hc : 3 ≤ c ∧ c < 7) (hs : 0 ≤ s ∧ s ≤ 10) (hn : n ≤ 4) (h14 : sz + n ≤ 14) {row N : Nat} (hrow : row < N) (hN : N ≤ 50625) {x1 : Int} {st : (Nat → Int) × Int} (hst : zso c sz st) (h0 : I 136 0 = (c : Int)) (hLP : zLP I c (zPP c)) (hw : ∀ q, q < 6 → I 143 q = st.1 q) {o8 o9 o11 o12 : Option zV} : ∃ (I' : Nat → Nat → Int) (v : Int) (p10 p11 p12 : Option zV), zgo X (zcal X zP (d + 4)) zc_M_findMisled 101 [some (.inr (.inr (.inl 135))), some (.inl x1), some (.inl (n : Int)), some (.inl k), some (.inl st.2), some (.inl s), some (.inl (N : Int)), some (.inl (row : Int)), o8, o9, none, o11, o12] [] (I, L) = zgo X (zcal X zP (d + 4)) zc_M_findMisled 229 [some (.inr (.inr (.inl 135))), some (.inl x1), some (.inl (n : Int)), some (.inl k), some (.inl st.2), some (.inl s), some (.inl (N : Int)), some (.inl (row : Int)), some (.inl v), some (.inl (n : Int)), p10, p11, p12] [.inr (.inl (zVs c k s n st row))] (I', L) ∧ ∀ a, a ≠ 141 → a ≠ 142 → I' a = I a := by
  have hrN : ((row : Int) < (N : Int)) = True := eq_true (by omega)
  obtain ⟨I1, a1, a2, a3, a4⟩ := zfm_b (X := X) (C := zcal X zP (d + 4)) hL (x1 := x1) (x2 := (n : Int)) (x3 := k) (x4 := st.2) (x5 := s) (x6 := (N : Int)) (x7 := (row : Int)) (o9 := o9) (o11 := o11) (o12 := o12) 6 0 I (by omega)
  have a1 : zgo X (zcal X zP (d + 4)) zc_M_findMisled 111 [some (.inr (.inr (.inl 135))), some (.inl x1), some (.inl (n : Int)), some (.inl k), some (.inl st.2), some (.inl s), some (.inl (N : Int)), some (.inl (row : Int)), some (.inl 0), o9, none, o11, o12] [] (I, L) = _ := a1
  obtain ⟨I2, v, p10, p11, p12, b1, b2⟩ := zfm_d (X := X) (d := d) (k := k) (s := s) hL hc hs hn h14 (row := row) (by omega) (x1 := x1) (x4 := st.2) (x6 := (N : Int)) n 0 st none o11 o12 I1 (Nat.zero_add n) hst (by rw [a2 136 (by omega)]; exact h0) (by
    unfold zLP
    rw [a2 135 (by omega), a2 144 (by omega), a2 145 (by omega)]
    exact hLP) (fun q hq => (a4 q (by omega) hq).trans (hw q hq))
  refine ⟨I2, v, p10, p11, p12, Eq.trans ?_ b1, fun a h1 h2 => (b2 a h1 h2).trans (a2 a h1)⟩
  refine zb_M_findMisled_101.trans ?_
  rw [if_pos (of_eq_true hrN), a1]
  refine zb_M_findMisled_111.trans ?_
  rw [if_neg (by decide)]
  rfl
theorem zfm_f (hL : zLay L) (hc : 3 ≤ c ∧ c < 7) (hs : 0 ≤ s ∧ s ≤ 10) (hn : n ≤ 4) (h14 : sz + n ≤ 14) {N : Nat} (hN : N ≤ 50625) {x1 : Int} {st : (Nat → Int) × Int} (hst : zso c sz st) : ∀ (t row : Nat) (q : Int × Nat) (o8 o9 o11 o12 : Option zV) (I : Nat → Nat → Int), row + t = N → I 136 0 = (c : Int) → zLP I c (zPP c) → (∀ q, q < 6 → I 143 q = st.1 q) → I 135 13 = q.1 → I 135 14 = (q.2 : Int) → ∃ I', zgo X (zcal X zP (d + 4)) zc_M_findMisled 101 [some (.inr (.inr (.inl 135))), some (.inl x1), some (.inl (n : Int)), some (.inl k), some (.inl st.2), some (.inl s), some (.inl (N : Int)), some (.inl (row : Int)), o8, o9, none, o11, o12] [] (I, L) = some (none, (I', L)) ∧ I' 135 13 = (zfor (zuq (zVs c k s n st)) t row q).1 ∧ I' 135 14 = ((zfor (zuq (zVs c k s n st)) t row q).2 : Int) ∧ ∀ a j, a ≠ 141 → a ≠ 142 → (a ≠ 135 ∨ (j ≠ 13 ∧ j ≠ 14)) → I' a j = I a j := by
  intro t
  induction t with
  | zero =>
    intro row q o8 o9 o11 o12 I hi h0 hLP hw g1 g2
    have hrN : ((row : Int) < (N : Int)) = False := eq_false (by omega)
    refine ⟨I, ?_, g1, g2, fun _ _ _ _ _ => rfl⟩
    refine zb_M_findMisled_101.trans ?_
    rw [if_neg (of_eq_false hrN)]
  | succ t ih =>
    intro row q o8 o9 o11 o12 I hi h0 hLP hw g1 g2
    have hrm : row < 1000000 := by omega
    obtain ⟨I1, v, p10, p11, p12, a1, a2⟩ := zfm_e (X := X) (d := d) (k := k) (s := s) hL hc hs hn h14 (row := row) (N := N) (by omega) hN (x1 := x1) hst h0 hLP hw (o8 := o8) (o9 := o9) (o11 := o11) (o12 := o12)
    have u13 : I1 135 13 = q.1 := by rw [a2 135 (by omega) (by omega)]; exact g1
    have u14 : I1 135 14 = (q.2 : Int) := by rw [a2 135 (by omega) (by omega)]; exact g2
    have hneg : ((q.2 : Int) < 0) = False := eq_false (by omega)
    rw [zfor_s]
    by_cases cv : zVs c k s n st row < q.1
    · have ez : zuq (zVs c k s n st) row q = (zVs c k s n st row, row) := if_pos cv
      rw [ez]
      generalize hI2 : zwI (zwI I1 135 13 (zVs c k s n st row)) 135 14 (row : Int) = I2
      have f2 : ∀ a j, (a ≠ 135 ∨ (j ≠ 13 ∧ j ≠ 14)) → I2 a j = I1 a j := by
        intro a j h
        rw [← hI2, zwI_if, if_neg (by omega), zwI_if, if_neg (by omega)]
      obtain ⟨I3, b1, b2, b3, b4⟩ := ih (row + 1) (zVs c k s n st row, row) (some (.inl v)) (some (.inr (.inl (zVs c k s n st row)))) p11 p12 I2 (by omega) (by rw [f2 136 0 (by omega), a2 136 (by omega) (by omega)]; exact h0) ⟨by rw [f2 135 12 (by omega), a2 135 (by omega) (by omega)]; exact hLP.1, fun j hj => by rw [f2 144 j (by omega), f2 145 j (by omega), a2 144 (by omega) (by omega), a2 145 (by omega) (by omega)]; exact hLP.2 j hj⟩ (fun p hp => by rw [f2 143 p (by omega), a2 143 (by omega) (by omega)]; exact hw p hp) (by rw [← hI2, zwI_nej (by omega), zwI_eq]) (by rw [← hI2, zwI_eq])
      refine ⟨I3, a1.trans ?_, b2, b3, fun a j h1 h2 h3 => (b4 a j h1 h2 h3).trans ((f2 a j h3).trans (by rw [a2 a h1 h2]))⟩
      refine zb_M_findMisled_229.trans ?_
      simp only [if_true, if_false, Option.bind_some, Option.bind, Option.toList, List.cons_append, List.nil_append, zite0, zite1, zite01, znn, ite_not, true_or, or_true, true_and, and_true, zn10, zn00, zk_135 hL, u14, hneg, zcmp_lt, u13, eq_true cv, zw_I, hI2, zw32n hrm, b1]
    · have ez : zuq (zVs c k s n st) row q = q := if_neg cv
      rw [ez]
      obtain ⟨I3, b1, b2, b3, b4⟩ := ih (row + 1) q (some (.inl v)) (some (.inr (.inl (zVs c k s n st row)))) p11 p12 I1 (by omega) (by rw [a2 136 (by omega) (by omega)]; exact h0) (by
        unfold zLP
        rw [a2 135 (by omega) (by omega), a2 144 (by omega) (by omega), a2 145 (by omega) (by omega)]
        exact hLP) (fun p hp => by rw [a2 143 (by omega) (by omega)]; exact hw p hp) u13 u14
      refine ⟨I3, a1.trans ?_, b2, b3, fun a j h1 h2 h3 => (b4 a j h1 h2 h3).trans (by rw [a2 a h1 h2])⟩
      refine zb_M_findMisled_229.trans ?_
      simp only [if_true, if_false, Option.bind_some, Option.bind, Option.toList, List.cons_append, List.nil_append, zite0, zite1, zite01, znn, ite_not, true_or, or_true, true_and, and_true, zn10, zn00, zk_135 hL, u14, hneg, zcmp_lt, u13, eq_false cv, zw32n hrm, b1]
theorem zq_M_findMisled (hL : zLay L) (hT : zTM I 136 T) (ho : zTOK nn T) (hc0 : T.1 0 = (c : Int)) (he : e < 4) (h1 : 1 ≤ n) (hn : n ≤ 4) (h14 : T.2.1 + n ≤ 14) : ∃ I', zcal X zP (d + 5) 184 [.inr (.inr (.inl 135)), .inl (e : Int), .inl (n : Int), .inl k] (I, L) = some (none, (I', L)) ∧ I' 135 13 = (zmq T c e n k).1 ∧ I' 135 14 = ((zmq T c e n k).2 : Int) ∧ zLP I' c (zPP c) ∧ ∀ a j, (a < 141 ∨ 147 ≤ a) → (a ≠ 135 ∨ j < 12 ∨ 14 < j) → I' a j = I a j := by
  have h3 := ho.1
  rw [hc0] at h3
  have hc : 3 ≤ c ∧ c < 7 := by omega
  have hsl := zslip_ok (k := k) (ho.2.2.2.2.2.2.1 e he).1
  have hP := zPP_w hc.1 hc.2 hn
  obtain ⟨I1, a1, a2, a3⟩ := zq_M_layPairs (X := X) (d := d + 3) (I := I) hL hc ((hT.1 0 (by omega)).trans hc0)
  have hT1 : zTM I1 136 T := zTM_row (funext fun j => a3 136 j (by omega) (by omega) (by omega)) hT
  obtain ⟨I2, b1, b2, b3⟩ := zq_M_watches (X := X) (d := d) (I := I1) (sharp := -1) hL he ho hT1 (k := T.2.1) (Nat.le_refl _)
  obtain ⟨I3, c1, c2, c3, c4⟩ := zfm_a (X := X) (C := zcal X zP (d + 4)) hL (x1 := (e : Int)) (x2 := (n : Int)) (x3 := k) 6 0 I2 (by omega)
  have c1 : zgo X (zcal X zP (d + 4)) zc_M_findMisled 19 [some (.inr (.inr (.inl 135))), some (.inl (e : Int)), some (.inl (n : Int)), some (.inl k), some (.inl 0), none, none, none, none, none, none, none, none] [] (I2, L) = _ := c1
  have hT3 : zTM I3 136 T := zTM_row (by rw [c2 136 (by omega), b2 136 (by omega) (by omega)]) hT1
  have hpb := zq_M_peaBehind (X := X) (d := d) (I := I3) hL hT3 ho (k := T.2.1) (Nat.le_refl _)
  have hsp := zq_M_slips (X := X) (d := d + 3) (I := I3) hL hT3 ho he (k := k)
  have e1 : I1 136 1 = (T.2.1 : Int) := hT1.2.1
  have e3 : I3 136 1 = (T.2.1 : Int) := hT3.2.1
  have g12 : I3 135 12 = (zPP c : Int) := by rw [c2 135 (by omega), b2 135 (by omega) (by omega)]; exact a2.1
  have hpw := zfm_c (X := X) (C := zcal X zP (d + 4)) (I := I3) hL hc hn g12 (x1 := (e : Int)) (x3 := k) (x4 := zpeaAt T T.2.1) (x5 := zslip k (T.1 (47 + 2 * e))) n 0 (Nat.zero_add n)
  have hpw : zgo X (zcal X zP (d + 4)) zc_M_findMisled 72 [some (.inr (.inr (.inl 135))), some (.inl (e : Int)), some (.inl (n : Int)), some (.inl k), some (.inl (zpeaAt T T.2.1)), some (.inl (zslip k (T.1 (47 + 2 * e)))), some (.inl 1), some (.inl 0), none, none, none, none, none] [] (I3, L) = _ := hpw
  generalize hI4 : zwI I3 135 14 (-1) = I4 at *
  have f4 : ∀ a j, (a ≠ 135 ∨ j ≠ 14) → I4 a j = I3 a j := by
    intro a j h
    rw [← hI4, zwI_if, if_neg (by omega)]
  have f3 : ∀ a, a ≠ 141 → a ≠ 142 → a ≠ 143 → I3 a = I1 a := fun a h1 h2 h3 => (c2 a h3).trans (b2 a h1 h2)
  have l4 : zLP I4 c (zPP c) := ⟨by rw [f4 135 12 (by omega)]; exact g12, fun j hj => by rw [f4 144 j (by omega), f4 145 j (by omega), f3 144 (by omega) (by omega) (by omega), f3 145 (by omega) (by omega) (by omega)]; exact a2.2 j hj⟩
  have z4 : I4 136 0 = (c : Int) := by rw [f4 136 0 (by omega)]; exact (hT3.1 0 (by omega)).trans hc0
  have w4 : ∀ q, q < 6 → I4 143 q = (zst0 T e).1 q := fun q hq => by rw [f4 143 q (by omega), c4 q (by omega) hq]; exact b3 q hq
  obtain ⟨I5, v, p10, p11, p12, m1, m2⟩ := zfm_e (X := X) (d := d) (k := k) (s := zslip k (T.1 (47 + 2 * e))) hL hc hsl hn h14 (row := 0) (N := zPP c ^ n) (by omega) (by omega) (x1 := (e : Int)) (zst0_ok ho hc0 he) z4 l4 w4 (o8 := none) (o9 := none) (o11 := none) (o12 := none)
  have m1 : zgo X (zcal X zP (d + 4)) zc_M_findMisled 101 [some (.inr (.inr (.inl 135))), some (.inl (e : Int)), some (.inl (n : Int)), some (.inl k), some (.inl (zpeaAt T T.2.1)), some (.inl (zslip k (T.1 (47 + 2 * e)))), some (.inl ((zPP c ^ n : Nat) : Int)), some (.inl 0), none, none, none, none, none] [] (I4, L) = _ := m1
  generalize hI6 : zwI (zwI I5 135 13 (zmg T c e n k 0)) 135 14 0 = I6
  have f6 : ∀ a j, (a ≠ 135 ∨ (j ≠ 13 ∧ j ≠ 14)) → I6 a j = I5 a j := by
    intro a j h
    rw [← hI6, zwI_if, if_neg (by omega), zwI_if, if_neg (by omega)]
  have l6 : zLP I6 c (zPP c) := ⟨by rw [f6 135 12 (by omega), m2 135 (by omega) (by omega)]; exact l4.1, fun j hj => by rw [f6 144 j (by omega), f6 145 j (by omega), m2 144 (by omega) (by omega), m2 145 (by omega) (by omega)]; exact l4.2 j hj⟩
  obtain ⟨I7, n1, n2, n3, n4⟩ := zfm_f (X := X) (d := d) (k := k) (s := zslip k (T.1 (47 + 2 * e))) hL hc hsl hn h14 (N := zPP c ^ n) (by omega) (x1 := (e : Int)) (zst0_ok ho hc0 he) (zPP c ^ n - 1) 1 (zmg T c e n k 0, 0) (some (.inl v)) (some (.inr (.inl (zmg T c e n k 0)))) p11 p12 I6 (by omega) (by rw [f6 136 0 (by omega), m2 136 (by omega) (by omega)]; exact z4) l6 (fun q hq => by rw [f6 143 q (by omega), m2 143 (by omega) (by omega)]; exact w4 q hq) (by rw [← hI6, zwI_nej (by omega), zwI_eq]) (by rw [← hI6, zwI_eq]; rfl)
  have u14 : I5 135 14 = -1 := by rw [m2 135 (by omega) (by omega), ← hI4, zwI_eq]
  refine ⟨I7, ?_, n2, n3, ⟨(n4 135 12 (by omega) (by omega) (by omega)).trans l6.1, fun j hj => by rw [n4 144 j (by omega) (by omega) (by omega), n4 145 j (by omega) (by omega) (by omega)]; exact l6.2 j hj⟩, fun a j h1 h2 => ?_⟩
  · have key : zgo X (zcal X zP (d + 4)) zc_M_findMisled 101 [some (.inr (.inr (.inl 135))), some (.inl (e : Int)), some (.inl (n : Int)), some (.inl k), some (.inl (zpeaAt T T.2.1)), some (.inl (zslip k (T.1 (47 + 2 * e)))), some (.inl ((zPP c ^ n : Nat) : Int)), some (.inl 0), none, none, none, none, none] [] (I4, L) = some (none, (I7, L)) := by
      refine m1.trans (zb_M_findMisled_229.trans ?_)
      have n1 : zgo X (zcal X zP (d + 4)) zc_M_findMisled 101 [some (.inr (.inr (.inl 135))), some (.inl (e : Int)), some (.inl (n : Int)), some (.inl k), some (.inl (zst0 T e).2), some (.inl (zslip k (T.1 (47 + 2 * e)))), some (.inl ((zPP c ^ n : Nat) : Int)), some (.inl (w32 (((0 : Nat) : Int) + 1))), some (.inl v), some (.inr (.inl (zmg T c e n k 0))), none, p11, p12] [] (I6, L) = some (none, (I7, L)) := n1
      have hm1 : ((-1 : Int) < 0) = True := eq_true (by decide)
      have hI6 : zwI (zwI I5 135 13 (zmg T c e n k 0)) 135 14 ((0 : Nat) : Int) = I6 := hI6
      simp only [if_true, if_false, Option.bind_some, Option.bind, Option.toList, List.cons_append, List.nil_append, zite0, zite1, zite01, znn, ite_not, true_or, or_true, true_and, and_true, zn10, zn00, zk_135 hL, u14, hm1, zw_I, hI6, n1]
    have hpf : ((n : Int) < (n : Int)) = False := eq_false (by omega)
    have h66 : ((6 : Int) < 6) = False := eq_false (by decide)
    refine ((zcal_go zp_M_findMisled rfl).trans zb_M_findMisled_0).trans ?_
    simp only [if_true, if_false, Option.bind_some, Option.bind, Option.toList, List.cons_append, List.nil_append, zite0, zite1, zite01, znn, ite_not, true_or, or_true, true_and, and_true, zn10, zn00, zk_135 hL, zr_135_0 hL, z6_0 hL, z6_1 hL, z6_2 hL, z6_3 hL, z6_4 hL, a1, zb_M_findMisled_4, e1, b1, zb_M_findMisled_16, c1]
    refine (congrArg _ rfl).trans (zb_M_findMisled_19.trans ?_)
    simp only [if_true, if_false, Option.bind_some, Option.bind, Option.toList, List.cons_append, List.nil_append, zite0, zite1, zite01, znn, ite_not, true_or, or_true, true_and, and_true, zn10, zn00, zk_135 hL, zr_135_0 hL, z6_0 hL, z6_1 hL, z6_2 hL, z6_3 hL, z6_4 hL, h66, e3, hpb, zb_M_findMisled_56, hsp, zb_M_findMisled_64, hpw]
    refine zb_M_findMisled_72.trans ?_
    simp only [if_true, if_false, Option.bind_some, Option.bind, Option.toList, List.cons_append, List.nil_append, zite0, zite1, zite01, znn, ite_not, true_or, or_true, true_and, and_true, zn10, zn00, zk_135 hL, zr_135_0 hL, z6_0 hL, z6_1 hL, z6_2 hL, z6_3 hL, z6_4 hL, hpf, zw_I, hI4, key]
  · rw [n4 a j (by omega) (by omega) (by omega), f6 a j (by omega), m2 a (by omega) (by omega), f4 a j (by omega), f3 a (by omega) (by omega) (by omega), a3 a j (by omega) (by omega) (by omega)]
end
