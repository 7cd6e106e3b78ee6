/-! TEXT: the class's reader whole. -/
section
variable {X : zX} {C : zC} {d n nn : Nat} {L : zLt} {T : zTb} {I : Nat → Nat → Int} {B : Nat → Int}
theorem zq_readOnto (hL : zLay L) (hX : zWX X) (h23 : zX23 X) (hB : zBy B n) (hb : ∀ j, j < n → I 124 j = B j) (h1 : I 123 1 = (n : Int)) (ho : zTOK nn T) (hT : zTC I 56 T) : ∃ I', zcal X zP (d + 6) 56 [.inr (.inr (.inl 123)), .inr (.inr (.inl 56))] (I, L) = some (some (.inl (zrdz X B n 120 1 (ztk B n 0) T).1), (I', L)) ∧ zTC I' 56 (zrdz X B n 120 1 (ztk B n 0) T).2 ∧ zTOK nn (zrdz X B n 120 1 (ztk B n 0) T).2 ∧ zRFr I I' := by
  generalize hI1 : zwI I 123 4 0 = I1
  have r124 : I1 124 = I 124 := by rw [← hI1, zwI_row (by omega)]
  obtain ⟨I2, a1, a2, a3, a4⟩ := zq_step (X := X) (d := d + 3) (I := I1) (n := n) hL (by rw [r124]; exact zBy_cg hb hB) (by rw [← hI1, zwI_nej (by omega)]; exact h1) (Nat.zero_le n) (by rw [← hI1, zwI_eq]; rfl)
  rw [r124, ztk_cg hb (Nat.zero_le n)] at a4
  have f2 : ∀ a, a ≠ 123 → I2 a = I a := fun a ha => (a2 a ha).trans (by rw [← hI1, zwI_row ha])
  obtain ⟨I3, b1, b2, b3, b4⟩ := zs_on (X := X) (d := d) (B := B) (n := n) hL hX h23 hB 120 1 (ztk B n 0) T I2 (by omega) ho ⟨by rw [f2 124 (by omega)]; exact hb, a3, a4, (ztk_in (Nat.zero_le n)).2, zTC_row ho.2.2.2.2.1 (fun a _ ha => f2 a (by omega)) hT⟩
  have b1 : zgo X (zcal X zP (d + 5)) zc_Tape_readOnto 11 [some (.inr (.inr (.inl 123))), some (.inr (.inr (.inl 56))), some (.inl 1)] [] (I2, L) = _ := b1
  refine ⟨I3, ?_, b2, b3, fun a ha hb => (b4 a ha hb).trans (f2 a hb)⟩
  refine ((zcal_go zp_Tape_readOnto rfl).trans zb_Tape_readOnto_0).trans ?_
  simp only [if_true, if_false, Option.bind_some, Option.bind, Option.toList, List.cons_append, List.nil_append, zite0, zite1, zite01, znn, ite_not, true_or, or_true, true_and, and_true, zn10, zn00, zk_123 hL, zw_I, hI1, a1, zb_Tape_readOnto_9, b1]
end
