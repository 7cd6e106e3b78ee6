/-! CONTRACTS OF CALLS, closed: pea, change, back, where, goes, seed, wipe, tear. -/
theorem zCI {X : zX} {L : zLt} {n mx mm : Nat} {args : List zV} {S : zSt} (q : zV × zSt) (hq : ∃ z, q.1 = .inl z) (hx : zHX X L 40 mx args S q) (hm : zHM X L 40 mm args S q) (ho : zSOK (n + 1) q.2) : ∃ z S', zHX X L 40 mx args S (.inl z, S') ∧ zHM X L 40 mm args S (.inl z, S') ∧ zSOK (n + 1) S' := by
  obtain ⟨q1, q2⟩ := q
  obtain ⟨z, hz⟩ := hq
  have hz : q1 = .inl z := hz
  subst hz
  exact ⟨z, q2, hx, hm, ho⟩
section
variable {X : zX} {d n : Nat} {L : zLt} {S : zSt}
theorem zA1 (hL : zLay L) : zA_1 X L := fun n a1 _ S ho hn => zCI (zr_pea S a1) (by unfold zr_pea; split <;> exact ⟨_, rfl⟩) (zx_pea (d := 36) hL ho) (zm_pea (d := 38) hL ho) (zo_pea ho hn)
theorem zA4 (hL : zLay L) : zA_4 X L := fun n a1 a2 _ _ S ho hn => zCI (zr_change S a1 a2) (by unfold zr_change; split <;> exact ⟨_, rfl⟩) (zx_change (d := 37) hL ho) (zm_change (d := 37) hL ho) (zo_change ho hn)
theorem zA5 (hL : zLay L) : zA_5 X L := fun n S ho hn => zCI (zr_back S) (by unfold zr_back; split <;> exact ⟨_, rfl⟩) (zx_back (d := 38) hL ho) (zm_back (d := 38) hL ho) (zo_back ho hn)
theorem zA6 (hL : zLay L) : zA_6 X L := fun n a1 _ S ho hn => zCI (zr_where S a1) (by unfold zr_where; split <;> exact ⟨_, rfl⟩) (zx_where (d := 34) hL ho) (zm_where (d := 35) hL ho) (zo_where ho hn)
theorem zA7 (hL : zLay L) : zA_7 X L := fun n a1 a2 _ _ S ho hn => zCI (zr_goes S a1 a2) (by unfold zr_goes; split <;> exact ⟨_, rfl⟩) (zx_goes (d := 36) hL ho) (zm_goes (d := 37) hL ho) (zo_goes ho hn)
theorem zA34 (hL : zLay L) : zA_34 X L := fun n a1 h1 S ho hn => zCI (zr_seed S a1) ⟨_, rfl⟩ (zx_seed (d := 39) hL ho) (zm_seed (d := 39) hL ho) (zo_seed ho hn h1)
def zr_wipe (S : zSt) : zV × zSt := (.inl (S.2.2.2.1.1 : Int), (S.1, (S.2.1, (S.2.2.1, ((0, S.2.2.2.1.2), S.2.2.2.2)))))
theorem zx_wipe (hL : zLay L) (ho : zSOK n S) : zHX X L (d + 1) 106 [] S (zr_wipe S) := by
  intro I hr
  refine ⟨zwI I 123 1 0, ?_, ?_, fun a ha => zwI_row (by omega)⟩
  · have e : I 123 1 = (S.2.2.2.1.1 : Int) := hr.2.2.2.1
    refine ((zcal_go zp_X_wipe rfl).trans zb_X_wipe_0).trans ?_
    simp only [if_true, if_false, Option.bind_some, Option.bind, Option.toList, List.cons_append, List.nil_append, zite0, zite1, zite01, znn, ite_not, true_or, or_true, true_and, and_true, zk_1 hL, zr_1_8 hL, zk_123 hL, e, zw_I, zr_wipe]
  · obtain ⟨h1, h2, h3, h4, h5, h6, h7⟩ := hr
    refine ⟨zTC_row ho.1.2.2.2.2.1 (fun a _ ha => zwI_row (by omega)) h1, (zwI_ne (by omega)).trans h2, fun e => zTC_row (ho.2.2.1 e).2.2.2.2.1 (fun a _ ha => zwI_row (by omega)) (h3 e), zwI_eq, fun j hj => absurd hj (by show ¬ j < 0; omega), fun s hs => ?_, fun k hk => (zwI_ne (by omega)).trans (h7 k hk)⟩
    rw [zwI_row (by omega), zwI_row (by omega)]; exact h6 s hs
theorem zm_wipe (hL : zLay L) (ho : zSOK n S) : zHM X L (d + 1) 213 [] S (zr_wipe S) := by
  intro I hr
  refine ⟨zwI I 135 6 0, ?_, ?_, fun a ha => zwI_row (by omega)⟩
  · have e : I 135 6 = (S.2.2.2.1.1 : Int) := hr.2.2.2.1
    refine ((zcal_go zp_M_wipe rfl).trans zb_M_wipe_0).trans ?_
    simp only [if_true, if_false, Option.bind_some, Option.bind, Option.toList, List.cons_append, List.nil_append, zite0, zite1, zite01, znn, ite_not, true_or, or_true, true_and, and_true, zk_135 hL, e, zw_I, zr_wipe]
  · obtain ⟨h1, h2, h3, h4, h5, h6, h7⟩ := hr
    refine ⟨zTM_row (zwI_row (by omega)) h1, (zwI_nej (by omega)).trans h2, fun e => zTM_row (zwI_row (by omega)) (h3 e), zwI_eq, fun j hj => absurd hj (by show ¬ j < 0; omega), ?_, fun k hk => (zwI_ne (by omega)).trans (h7 k hk)⟩
    rw [zwI_row (by omega), zwI_row (by omega), zwI_row (by omega)]; exact h6
theorem zo_wipe (ho : zSOK n S) (hn : n < 100000) : zSOK (n + 1) (zr_wipe S).2 := by
  obtain ⟨h1, h2, h3, h4, h5, h6⟩ := zSOK_up ho hn
  exact ⟨h1, h2, h3, by show 0 ≤ 120; omega, h5, h6⟩
theorem zA36 (hL : zLay L) : zA_36 X L := fun n S ho hn => zCI (zr_wipe S) ⟨_, rfl⟩ (zx_wipe (d := 39) hL ho) (zm_wipe (d := 39) hL ho) (zo_wipe ho hn)
def zr_tear (S : zSt) : zV × zSt := (.inl S.2.1, (S.1, (0, S.2.2)))
theorem zx_tear (hL : zLay L) (ho : zSOK n S) : zHX X L (d + 1) 117 [] S (zr_tear S) := by
  intro I hr
  refine ⟨zwI I 1 3 0, ?_, ?_, fun a ha => zwI_row (by omega)⟩
  · have e : I 1 3 = S.2.1 := hr.2.1
    refine ((zcal_go zp_X_tear rfl).trans zb_X_tear_0).trans ?_
    simp only [if_true, if_false, Option.bind_some, Option.bind, Option.toList, List.cons_append, List.nil_append, zite0, zite1, zite01, znn, ite_not, true_or, or_true, true_and, and_true, zk_1 hL, e, zw_I, zr_tear]
    rcases ho.2.1 with h | h <;> rw [h] <;> rfl
  · obtain ⟨h1, h2, h3, h4, h5, h6, h7⟩ := hr
    refine ⟨zTC_row ho.1.2.2.2.2.1 (fun a _ ha => zwI_row (by omega)) h1, zwI_eq, fun e => absurd e (by show ¬ ((0 : Int) = 1); omega), (zwI_ne (by omega)).trans h4, fun j hj => (zwI_ne (by omega)).trans (h5 j hj), fun s hs => ?_, fun k hk => (zwI_ne (by omega)).trans (h7 k hk)⟩
    rw [zwI_row (by omega), zwI_row (by omega)]; exact h6 s hs
theorem zm_tear (hL : zLay L) (ho : zSOK n S) : zHM X L (d + 1) 241 [] S (zr_tear S) := by
  intro I hr
  refine ⟨zwI I 135 3 0, ?_, ?_, fun a ha => zwI_row (by omega)⟩
  · have e : I 135 3 = S.2.1 := hr.2.1
    refine ((zcal_go zp_M_tear rfl).trans zb_M_tear_0).trans ?_
    simp only [if_true, if_false, Option.bind_some, Option.bind, Option.toList, List.cons_append, List.nil_append, zite0, zite1, zite01, znn, ite_not, true_or, or_true, true_and, and_true, zk_135 hL, e, zw_I, zr_tear]
    rcases ho.2.1 with h | h <;> rw [h] <;> rfl
  · obtain ⟨h1, h2, h3, h4, h5, h6, h7⟩ := hr
    refine ⟨zTM_row (zwI_row (by omega)) h1, zwI_eq, fun e => absurd e (by show ¬ ((0 : Int) = 1); omega), (zwI_nej (by omega)).trans h4, fun j hj => (zwI_ne (by omega)).trans (h5 j hj), ?_, fun k hk => (zwI_ne (by omega)).trans (h7 k hk)⟩
    rw [zwI_row (by omega), zwI_row (by omega), zwI_row (by omega)]; exact h6
theorem zo_tear (ho : zSOK n S) (hn : n < 100000) : zSOK (n + 1) (zr_tear S).2 := by
  obtain ⟨h1, h2, h3, h4⟩ := zSOK_up ho hn
  exact ⟨h1, Or.inl rfl, fun e => absurd e (by show ¬ ((0 : Int) = 1); omega), h4⟩
theorem zA47 (hL : zLay L) : zA_47 X L := fun n S ho hn => zCI (zr_tear S) ⟨_, rfl⟩ (zx_tear (d := 39) hL ho) (zm_tear (d := 39) hL ho) (zo_tear ho hn)
end
