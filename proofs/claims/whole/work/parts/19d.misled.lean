/-! MISLED: the class's search, one pass more. -/
section
variable {X : zX} {C : zC} {d n sz c m : Nat} {k s : Int} {L : zLt} {I : Nat → Nat → Int}
theorem zh_s (hL : zLay L) (hc : 3 ≤ c ∧ c < 7) (hs : 0 ≤ s ∧ s ≤ 10) (hn : sz + n ≤ 14 ∧ n ≤ 4) (h : zSk (zcal X zP (d + 4)) L sz c n k s (m + 1)) : zCh (zcal X zP (d + 5)) L sz c n k s (m + 1) := by
  intro dp pre a b st q I hd hab hb hI hC hq h0 hst hw p0 p1 p2
  have hI0 := hI
  obtain ⟨i1, i2, i3, i4, i5⟩ := hI
  have hst' := zso_s (k := k) (s := s) hc hs (by omega) ⟨hab, hb⟩ hst
  have hdm : dp < 1000000 := by omega
  have ew : Unit → w32 ((sz : Int) + (dp : Int)) = ((sz + dp : Nat) : Int)   := fun _ => (zw32 (x := (sz : Int) + (dp : Int)) (by omega) (by omega)).trans (by omega)
  have ed : Unit → w32 ((dp : Int) + 1) = ((dp + 1 : Nat) : Int) := fun _ => zw32n hdm
  have hnn : (((dp + 1 : Nat) : Int) < (n : Int)) = True := eq_true (by omega)
  have hB := zB_le (k := sz + dp) (by omega)
  have hB2 : zB (sz + dp) ≤ 100000000000000000 := (by decide : ∀ k, k < 15 → zB k ≤ 100000000000000000) _ (by omega)
  obtain ⟨I1, a1, a2, a3⟩ := zq_see (X := X) (d := d) (L := L) (I := I) (t := 83) (k := sz + dp) (p := 120) (c := c) (s := s) (B := zB (sz + dp)) (w := st.1) (zsigL hL (Or.inl rfl)) (by omega) (by omega) (by omega) hs (zk_120 hL) hst.1 (by omega) (by rw [p1, p2]; omega) (by rw [p1]; omega) (by rw [p2]; omega) (by
    intro p hp6
    rw [show 83 + 2 + (sz + dp) = 85 + sz + dp by omega]
    exact hw p hp6)
  rw [p0, p1, p2] at a3
  have f1 : zFr I I1 sz dp (dp + 1) := ⟨fun a ha => a2 a (by omega), fun j hj => by rw [a2 117 (by omega)], fun j hj => by rw [a2 118 (by omega)]⟩
  obtain ⟨I2, b1, b2, b3⟩ := h (dp + 1) pre (zstp c k s a b st) q I1 (by omega) (zSI_f f1 hI0) (zCs_c hC f1.2.2) ⟨(by rw [a2 117 (by omega)]; exact hq.1), fun hh => zCs_c (hq.2 hh) fun i hi => by rw [a2 119 (by omega)]⟩ h0 (by rw [← Nat.add_assoc]; exact hst') (by
    intro p hp6
    rw [show 85 + sz + (dp + 1) = 83 + 3 + (sz + dp) by omega]
    exact a3 p hp6)
  have b1 : zcal X zP (d + 4) 28 [.inr (.inr (.inl 117)), .inr (.inr (.inl 2)), .inr (.inr (.inl 83)), .inl ((dp + 1 : Nat) : Int), .inl (zpea k (a : Int) (b : Int) st.2)] (I1, L) = some (none, (I2, L)) := b1
  refine ⟨I2, ?_, b2, zFr_t (by omega) (by omega) f1 b3⟩
  refine ((zcal_go zp_Search_choose rfl).trans zb_Search_choose_0).trans ?_
  simp only [if_true, if_false, Option.bind_some, Option.bind, Option.toList, List.cons_append, List.nil_append, zite0, zite1, zite01, znn, ite_not, true_or, or_true, true_and, and_true, zn10, zn00, zk_117 hL, zk_2 hL, zr_117_6 hL, zk_83 hL, i1, i2, i4, i5, ew (), ed (), hnn, a1, zb_Search_choose_36, b1, zb_Search_choose_47]
end
