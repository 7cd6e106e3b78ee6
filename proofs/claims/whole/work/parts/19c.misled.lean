/-! MISLED: the class's search, a row's end. -/
section
variable {X : zX} {C : zC} {d n sz c m : Nat} {k s : Int} {L : zLt} {I : Nat → Nat → Int}
theorem zh_0 (hL : zLay L) (hc : 3 ≤ c ∧ c < 7) (hs : 0 ≤ s ∧ s ≤ 10) (hn : sz + n ≤ 14 ∧ n ≤ 4) : zCh (zcal X zP (d + 4)) L sz c n k s 0 := by
  intro dp pre a b st q I hd hab hb hI hC hq h0 hst hw p0 p1 p2
  obtain ⟨i1, i2, i3, i4, i5⟩ := hI
  obtain ⟨q1, q2⟩ := hq
  have hst' := zso_s (k := k) (s := s) hc hs (by omega) ⟨hab, hb⟩ hst
  have hdm : dp < 1000000 := by omega
  have ew : Unit → w32 ((sz : Int) + (dp : Int)) = ((sz + dp : Nat) : Int)   := fun _ => (zw32 (x := (sz : Int) + (dp : Int)) (by omega) (by omega)).trans (by omega)
  have ed : Unit → w32 ((dp : Int) + 1) = (n : Int) := fun _ => (zw32n (i := dp) hdm).trans (by omega)
  have gk : ((L.2.1 118).1 = 2 ∧ (L.2.1 119).1 = 2 ∧ 0 ≤ (0 : Int) ∧ 0 ≤ (0 : Int) ∧ 0 ≤ (n : Int) ∧ (0 : Int) + (n : Int) ≤ ((L.2.1 118).2.1 : Int) ∧ (0 : Int) + (n : Int) ≤ ((L.2.1 119).2.1 : Int)) = True := by
    rw [zk_118 hL, zk_119 hL]
    exact eq_true ⟨rfl, rfl, by omega, by omega, by omega, show (0 : Int) + (n : Int) ≤ ((4 : Nat) : Int) by omega, show (0 : Int) + (n : Int) ≤ ((4 : Nat) : Int) by omega⟩
  have hnn : ((n : Int) < (n : Int)) = False := eq_false (by omega)
  have hz : zfor (zuq (zVs c k s 0 (zstp c k s a b st))) (zPP c ^ 0) (pre * zPP c ^ 0) q = if zvl (zstp c k s a b st) < q.1 then (zvl (zstp c k s a b st), pre) else q := by
    rw [Nat.pow_zero, Nat.mul_one]
    rfl
  rw [hz]
  have key : zcal X zP (d + 4) 29 [.inr (.inr (.inl 117)), .inr (.inr (.inl 2)), .inr (.inr (.inl 83)), .inl (dp : Int), .inl (zpea k (a : Int) (b : Int) st.2)] (I, L) = zgo X (zcal X zP (d + 3)) zc_Search_choose 77 [some (.inr (.inr (.inl 117))), some (.inr (.inr (.inl 2))), some (.inr (.inr (.inl 83))), some (.inl (dp : Int)), some (.inl (zpea k (a : Int) (b : Int) st.2)), some (.inl ((sz + dp : Nat) : Int)), none, none] [.inr (.inl (zvl (zstp c k s a b st)))] (I, L) := by
    by_cases hp : zpea k (a : Int) (b : Int) st.2 < 0
    · have ev : zvl (zstp c k s a b st) = 0 := if_pos hp
      rw [ev]
      refine ((zcal_go zp_Search_choose rfl).trans zb_Search_choose_0).trans ?_
      simp only [if_true, if_false, Option.bind_some, Option.bind, Option.toList, List.cons_append, List.nil_append, zite0, zite1, zite01, znn, ite_not, true_or, or_true, true_and, and_true, zn10, zn00, zk_117 hL, zk_2 hL, zr_117_6 hL, zk_83 hL, i1, i2, i4, i5, ew (), ed (), hnn, eq_true hp]
    · obtain ⟨hr1, hr2⟩ := hst'.2.1
      have hr2 : zpea k (a : Int) (b : Int) st.2 < (c : Int) := hr2
      have ev : Unit → zvl (zstp c k s a b st) = zsee (c : Int) (a : Int) (zlooks k (a : Int) (b : Int)) s st.1 (zpea k (a : Int) (b : Int) st.2).toNat := fun _ => if_neg hp
      rw [ev ()]
      obtain ⟨r, hr⟩ := Int.eq_ofNat_of_zero_le (show 0 ≤ zpea k (a : Int) (b : Int) st.2 by omega)
      rw [hr] at hp hr2 ⊢
      have hB := zB_le (k := sz + dp) (by omega)
      have hB2 : zB (sz + dp) ≤ 100000000000000000 := (by decide : ∀ k, k < 15 → zB k ≤ 100000000000000000) _ (by omega)
      have er : 83 + 2 + (sz + dp) = 85 + sz + dp := by omega
      have hq := zq_seenAt (X := X) (d := d) (L := L) (I := I) (t := 83) (k := sz + dp) (p := 120) (c := (c : Int)) (s := s) (B := zB (sz + dp)) (i := r) (zsigL hL (Or.inl rfl)) (by omega) (by omega) hs (zk_120 hL) (by rw [p1, p2]; omega) (by rw [p1]; omega) (by rw [p2]; omega) (by
        intro p hp6
        rw [er, hw p hp6]
        exact hst.1 p) (by omega) (by omega)
      rw [p0, p1, p2, er, zsee_same (w' := st.1) (by omega) (by omega) (zlooks_in (by omega) (by omega)) hw (by omega)] at hq
      refine ((zcal_go zp_Search_choose rfl).trans zb_Search_choose_0).trans ?_
      simp only [if_true, if_false, Option.bind_some, Option.bind, Option.toList, List.cons_append, List.nil_append, zite0, zite1, zite01, znn, ite_not, true_or, or_true, true_and, and_true, zn10, zn00, zk_117 hL, zk_2 hL, zr_117_6 hL, zk_83 hL, i1, i2, i4, i5, ew (), ed (), hnn, eq_false hp, hq, Int.toNat_natCast]
  rw [key]
  have q1' : I 117 3 = q.1 := q1
  by_cases cv : zvl (zstp c k s a b st) < q.1
  · rw [if_pos cv]
    have e2 : zwI I 117 3 (zvl (zstp c k s a b st)) 117 2 = (n : Int) := by rw [zwI_nej (by omega)]; exact i5
    refine ⟨zcpI (zwI I 117 3 (zvl (zstp c k s a b st))) 118 0 119 0 n, ?_, ⟨?_, fun _ => ?_⟩, fun a ha => ?_, fun j hj => ?_, fun j hj => ?_⟩
    · rw [zb_Search_choose_77]
      simp only [if_true, if_false, Option.bind_some, Option.bind, Option.toList, List.cons_append, List.nil_append, zite0, zite1, zite01, znn, ite_not, true_or, or_true, true_and, and_true, zn10, zn00, zk_117 hL, zr_117_4 hL, zr_117_5 hL, zcmp_lt, q1', eq_true cv, zw_I, e2, gk, zcopy_I, Int.toNat_natCast]
    · exact (if_neg (by omega)).trans zwI_eq
    · have hC2 : zCs c (I 118) n pre := by rw [← show dp + 1 = n by omega]; exact hC
      refine zCs_c hC2 fun i hi => (if_pos ⟨rfl, by omega, by omega⟩).trans ?_
      rw [zwI_ne (by omega), Nat.zero_add, Nat.sub_zero]
    · exact funext fun j => (if_neg (by omega)).trans (zwI_ne (by omega))
    · exact (if_neg (by omega)).trans (zwI_nej hj)
    · exact (if_neg (by omega)).trans (zwI_ne (by omega))
  · rw [if_neg cv]
    refine ⟨I, ?_, ⟨q1, q2⟩, zFr_r⟩
    rw [zb_Search_choose_77]
    simp only [if_true, if_false, Option.bind_some, Option.bind, Option.toList, List.cons_append, List.nil_append, zite0, zite1, zite01, znn, ite_not, true_or, or_true, true_and, and_true, zn10, zn00, zk_117 hL, zcmp_lt, q1', eq_false cv]
end
