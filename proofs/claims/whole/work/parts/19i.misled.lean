/-! MISLED: the reference's rows. -/
section
variable {X : zX} {C : zC} {d n sz c : Nat} {k s : Int} {L : zLt} {S : zSt} {T : zTb} {I : Nat → Nat → Int}
theorem zg143 (hL : zLay L) {i : Nat} (h : i < 6) : ((L.2.1 143).1 = 3 ∧ 0 ≤ (i : Int) ∧ (i : Int) < ((L.2.1 143).2.1 : Int)) = True := by
  rw [zk_143 hL]
  exact eq_true ⟨rfl, by omega, show (i : Int) < ((6 : Nat) : Int) by omega⟩
theorem zfm_a (hL : zLay L) {x1 x2 x3 : Int} : ∀ (t i : Nat) (I : Nat → Nat → Int), i + t = 6 → ∃ I', zgo X C zc_M_findMisled 19 [some (.inr (.inr (.inl 135))), some (.inl x1), some (.inl x2), some (.inl x3), some (.inl (i : Int)), none, none, none, none, none, none, none, none] [] (I, L) = zgo X C zc_M_findMisled 19 [some (.inr (.inr (.inl 135))), some (.inl x1), some (.inl x2), some (.inl x3), some (.inl 6), none, none, none, none, none, none, none, none] [] (I', L) ∧ (∀ a, a ≠ 143 → I' a = I a) ∧ (∀ j, j < i → I' 143 j = I 143 j) ∧ ∀ j, i ≤ j → j < 6 → I' 143 j = I 141 j := by
  intro t
  induction t with
  | zero =>
    intro i I hi
    have : i = 6 := by omega
    subst this
    exact ⟨I, rfl, fun _ _ => rfl, fun _ _ => rfl, fun j h1 h2 => absurd h1 (by omega)⟩
  | succ t ih =>
    intro i I hi
    have him : i < 1000000 := by omega
    have hi6 : ((i : Int) < 6) = True := eq_true (by omega)
    have hi7 : i < 6 := by omega
    obtain ⟨I', a1, a2, a3, a4⟩ := ih (i + 1) (zwI I 143 i (I 141 i)) (by omega)
    refine ⟨I', ?_, fun a ha => (a2 a ha).trans (zwI_row ha), fun j hj => (a3 j (by omega)).trans (zwI_nej (by omega)), fun j h1 h2 => ?_⟩
    · refine zb_M_findMisled_19.trans ?_
      simp only [if_true, if_false, Option.bind_some, Option.bind, Option.toList, List.cons_append, List.nil_append, zite0, zite1, zite01, znn, ite_not, true_or, or_true, true_and, and_true, zn10, zn00, zk_135 hL, zr_135_0 hL, z6_0 hL, z6_1 hL, z6_2 hL, z6_3 hL, z6_4 hL, hi6, zr_135_7 hL, zr_135_9 hL, zc141 hL hi7, zg143 hL hi7, Int.toNat_natCast, zw_I, zw32n him, a1]
    · by_cases hj : j = i
      · rw [hj, a3 i (by omega), zwI_eq]
      · rw [a4 j (by omega) h2, zwI_ne (by omega)]
theorem zfm_b (hL : zLay L) {x1 x2 x3 x4 x5 x6 x7 : Int} {o9 o11 o12 : Option zV} : ∀ (t i : Nat) (I : Nat → Nat → Int), i + t = 6 → ∃ I', zgo X C zc_M_findMisled 111 [some (.inr (.inr (.inl 135))), some (.inl x1), some (.inl x2), some (.inl x3), some (.inl x4), some (.inl x5), some (.inl x6), some (.inl x7), some (.inl (i : Int)), o9, none, o11, o12] [] (I, L) = zgo X C zc_M_findMisled 111 [some (.inr (.inr (.inl 135))), some (.inl x1), some (.inl x2), some (.inl x3), some (.inl x4), some (.inl x5), some (.inl x6), some (.inl x7), some (.inl 6), o9, none, o11, o12] [] (I', L) ∧ (∀ a, a ≠ 141 → I' a = I a) ∧ (∀ j, j < i → I' 141 j = I 141 j) ∧ ∀ j, i ≤ j → j < 6 → I' 141 j = I 143 j := by
  intro t
  induction t with
  | zero =>
    intro i I hi
    have : i = 6 := by omega
    subst this
    exact ⟨I, rfl, fun _ _ => rfl, fun _ _ => rfl, fun j h1 h2 => absurd h1 (by omega)⟩
  | succ t ih =>
    intro i I hi
    have him : i < 1000000 := by omega
    have hi6 : ((i : Int) < 6) = True := eq_true (by omega)
    have hi7 : i < 6 := by omega
    obtain ⟨I', a1, a2, a3, a4⟩ := ih (i + 1) (zwI I 141 i (I 143 i)) (by omega)
    refine ⟨I', ?_, fun a ha => (a2 a ha).trans (zwI_row ha), fun j hj => (a3 j (by omega)).trans (zwI_nej (by omega)), fun j h1 h2 => ?_⟩
    · refine zb_M_findMisled_111.trans ?_
      simp only [if_true, if_false, Option.bind_some, Option.bind, Option.toList, List.cons_append, List.nil_append, zite0, zite1, zite01, znn, ite_not, true_or, or_true, true_and, and_true, zn10, zn00, zk_135 hL, zr_135_0 hL, z6_0 hL, z6_1 hL, z6_2 hL, z6_3 hL, z6_4 hL, hi6, zr_135_7 hL, zr_135_9 hL, zc141 hL hi7, zg143 hL hi7, Int.toNat_natCast, zw_I, zw32n him, a1]
    · by_cases hj : j = i
      · rw [hj, a3 i (by omega), zwI_eq]
      · rw [a4 j (by omega) h2, zwI_ne (by omega)]
theorem zfm_c (hL : zLay L) (hc : 3 ≤ c ∧ c < 7) (hn : n ≤ 4) (h12 : I 135 12 = (zPP c : Int)) {x1 x3 x4 x5 : Int} : ∀ (t i : Nat), i + t = n → zgo X C zc_M_findMisled 72 [some (.inr (.inr (.inl 135))), some (.inl x1), some (.inl (n : Int)), some (.inl x3), some (.inl x4), some (.inl x5), some (.inl ((zPP c ^ i : Nat) : Int)), some (.inl (i : Int)), none, none, none, none, none] [] (I, L) = zgo X C zc_M_findMisled 72 [some (.inr (.inr (.inl 135))), some (.inl x1), some (.inl (n : Int)), some (.inl x3), some (.inl x4), some (.inl x5), some (.inl ((zPP c ^ n : Nat) : Int)), some (.inl (n : Int)), none, none, none, none, none] [] (I, L) := by
  intro t
  induction t with
  | zero =>
    intro i hi
    have : i = n := by omega
    subst this
    rfl
  | succ t ih =>
    intro i hi
    have him : i < 1000000 := by omega
    have hin : ((i : Int) < (n : Int)) = True := eq_true (by omega)
    have hP := (zPP_w (c := c) (m := i + 1) hc.1 hc.2 (by omega)).2
    have e : Unit → w32 (((zPP c ^ i : Nat) : Int) * (zPP c : Int)) = ((zPP c ^ (i + 1) : Nat) : Int) := fun _ => by
      rw [Nat.pow_succ] at hP ⊢
      exact zw32x hP
    have hq := ih (i + 1) (by omega)
    refine zb_M_findMisled_72.trans ?_
    simp only [if_true, if_false, Option.bind_some, Option.bind, Option.toList, List.cons_append, List.nil_append, zite0, zite1, zite01, znn, ite_not, true_or, or_true, true_and, and_true, zn10, zn00, zk_135 hL, hin, h12, e (), zw32n him, hq]
theorem zfm_d (hL : zLay L) (hc : 3 ≤ c ∧ c < 7) (hs : 0 ≤ s ∧ s ≤ 10) (hn : n ≤ 4) (h14 : sz + n ≤ 14) {row : Nat} (hrow : row ≤ 50625) {x1 x4 x6 : Int} : ∀ (t i : Nat) (st : (Nat → Int) × Int) (o10 o11 o12 : Option zV) (I : Nat → Nat → Int), i + t = n → zso c (sz + i) st → I 136 0 = (c : Int) → zLP I c (zPP c) → (∀ q, q < 6 → I 141 q = st.1 q) → ∃ (I' : Nat → Nat → Int) (v : Int) (p10 p11 p12 : Option zV), zgo X (zcal X zP (d + 4)) zc_M_findMisled 145 [some (.inr (.inr (.inl 135))), some (.inl x1), some (.inl (n : Int)), some (.inl k), some (.inl x4), some (.inl s), some (.inl x6), some (.inl (row : Int)), some (.inl st.2), some (.inl (i : Int)), o10, o11, o12] [] (I, L) = zgo X (zcal X zP (d + 4)) zc_M_findMisled 229 [some (.inr (.inr (.inl 135))), some (.inl x1), some (.inl (n : Int)), some (.inl k), some (.inl x4), some (.inl s), some (.inl x6), some (.inl (row : Int)), some (.inl v), some (.inl (n : Int)), p10, p11, p12] [.inr (.inl (zVs c k s t st row))] (I', L) ∧ ∀ a, a ≠ 141 → a ≠ 142 → I' a = I a := by
  have hP := zPP_in hc.1 hc.2
  intro t
  induction t with
  | zero =>
    intro i st o10 o11 o12 I hi hst h0 hLP hw
    have : i = n := by omega
    subst this
    have h2 := hst.2.1
    have hnn : ((i : Int) < (i : Int)) = False := eq_false (by omega)
    have hq := zq_M_rightNow (X := X) (d := d + 3) (I := I) hL (p := st.2) (by omega)
    have ev : (if st.2 < 0 then 0 else I 141 st.2.toNat) = zVs c k s 0 st row := by
      show _ = zvl st
      unfold zvl
      split
      · rfl
      · exact hw _ (by omega)
    rw [ev] at hq
    refine ⟨I, st.2, o10, o11, o12, ?_, fun _ _ _ => rfl⟩
    refine zb_M_findMisled_145.trans ?_
    simp only [if_true, if_false, Option.bind_some, Option.bind, Option.toList, List.cons_append, List.nil_append, zite0, zite1, zite01, znn, ite_not, true_or, or_true, true_and, and_true, zn10, zn00, zk_135 hL, hnn, hq]
  | succ t ih =>
    intro i st o10 o11 o12 I hi hst h0 hLP hw
    have him : i < 1000000 := by omega
    have hin : ((i : Int) < (n : Int)) = True := eq_true (by omega)
    have hpo := zq_M_pairOf (X := X) (d := d + 3) (n := n) (I := I) hL hLP.1 (by omega) (i := i) (r := row) (by omega) hn hrow
    rw [show n - 1 - i = t by omega] at hpo
    have hjl := Nat.mod_lt (row / zPP c ^ t) (show 0 < zPP c by omega)
    rw [show zVs c k s (t + 1) st row = zVs c k s t (zsj c k s (row / zPP c ^ t % zPP c) st) row from rfl]
    generalize hj : row / zPP c ^ t % zPP c = j at *
    have hj15 : j < 15 := by omega
    obtain ⟨p1, p2⟩ := hLP.2 j hjl
    obtain ⟨hab, hbc⟩ := zpj_in hc.2 hjl
    rw [show zsj c k s j st = zstp c k s (zpj c j).1 (zpj c j).2 st from rfl]
    generalize hA : (zpj c j).1 = a at *
    generalize hB : (zpj c j).2 = b at *
    have hst' := zso_s (k := k) (s := s) hc hs (by omega) ⟨hab, hbc⟩ hst
    have hBb := zB_le (k := sz + i) (by omega)
    have hB2 : zB (sz + i) ≤ 100000000000000000 := (by decide : ∀ k, k < 15 → zB k ≤ 100000000000000000) _ (by omega)
    obtain ⟨I1, q1, q2, q3⟩ := zq_M_looksAt (X := X) (d := d + 2) (I := I) hL (c := (c : Int)) (x := (a : Int)) (y := zlooks k (a : Int) (b : Int)) (s := s) (B := zB (sz + i)) (w := st.1) (by omega) h0 (by omega) (zlooks_in (by omega) (by omega)) hs hst.1 (by omega) (fun q hq => hst.2.2 q (by omega)) hw
    have hpb := zq_M_peaBy (X := X) (d := d + 1) (σ := (I1, L)) (k := k) (a := (a : Int)) (b := (b : Int)) (v := st.2) (by omega) (by omega) (by omega) hst.2.1.1
    have hth := zq_M_third (X := X) (d := d + 3) (σ := (I, L)) (a := (a : Int)) (b := (b : Int)) (by omega)
    obtain ⟨I2, v, p10, p11, p12, b1, b2⟩ := ih (i + 1) (zstp c k s a b st) (some (.inl (j : Int))) (some (.inl (a : Int))) (some (.inl (b : Int))) I1 (by omega) (by rw [← Nat.add_assoc]; exact hst') (by rw [q2 136 (by omega) (by omega)]; exact h0) (by
      unfold zLP
      rw [q2 135 (by omega) (by omega), q2 144 (by omega) (by omega), q2 145 (by omega) (by omega)]
      exact hLP) q3
    refine ⟨I2, v, p10, p11, p12, Eq.trans ?_ b1, fun x h1 h2 => (b2 x h1 h2).trans (q2 x h1 h2)⟩
    show _ = zgo X (zcal X zP (d + 4)) zc_M_findMisled 145 [some (.inr (.inr (.inl 135))), some (.inl x1), some (.inl (n : Int)), some (.inl k), some (.inl x4), some (.inl s), some (.inl x6), some (.inl (row : Int)), some (.inl (zpea k (a : Int) (b : Int) st.2)), some (.inl ((i + 1 : Nat) : Int)), some (.inl (j : Int)), some (.inl (a : Int)), some (.inl (b : Int))] [] (I1, L)
    refine zb_M_findMisled_145.trans ?_
    by_cases c4 : k = 4
    · have ey : zlooks k (a : Int) (b : Int) = zthird (a : Int) (b : Int) := if_pos c4
      rw [ey] at q1
      simp only [if_true, if_false, Option.bind_some, Option.bind, Option.toList, List.cons_append, List.nil_append, zite0, zite1, zite01, znn, ite_not, true_or, or_true, true_and, and_true, zn10, zn00, zk_135 hL, hin, hpo, zb_M_findMisled_160, zr_135_10 hL, zr_135_11 hL, zg144 hL hj15, zg145 hL hj15, Int.toNat_natCast, p1, p2, eq_true c4, hth, zb_M_findMisled_195, q1, zb_M_findMisled_205, hpb, zb_M_findMisled_215, zw32n him]
    · have ey : zlooks k (a : Int) (b : Int) = (b : Int) := if_neg c4
      rw [ey] at q1
      simp only [if_true, if_false, Option.bind_some, Option.bind, Option.toList, List.cons_append, List.nil_append, zite0, zite1, zite01, znn, ite_not, true_or, or_true, true_and, and_true, zn10, zn00, zk_135 hL, hin, hpo, zb_M_findMisled_160, zr_135_10 hL, zr_135_11 hL, zg144 hL hj15, zg145 hL hj15, Int.toNat_natCast, p1, p2, eq_false c4, q1, zb_M_findMisled_205, hpb, zb_M_findMisled_215, zw32n him]
end
