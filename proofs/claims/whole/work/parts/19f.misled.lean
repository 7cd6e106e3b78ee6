/-! MISLED: what is asked for; the class's half. -/
/-- where the search starts -/
def zst0 (T : zTb) (e : Nat) : (Nat → Int) × Int := (zW T e (-1) T.2.1, zpeaAt T T.2.1)
abbrev zmg (T : zTb) (c e n : Nat) (k : Int) (x : Nat) : Int := zVs c k (zslip k (T.1 (47 + 2 * e))) n (zst0 T e) x
/-- the least worth, and the first row that has it -/
def zmq (T : zTb) (c e n : Nat) (k : Int) : Int × Nat := zfor (zuq (zmg T c e n k)) (zPP c ^ n - 1) 1 (zmg T c e n k 0, 0)
theorem zst0_ok {nn c e : Nat} {T : zTb} (ho : zTOK nn T) (hc0 : T.1 0 = (c : Int)) (he : e < 4) : zso c T.2.1 (zst0 T e) := by
  have h14 := ho.2.2.2.2.1
  refine ⟨zW_ok ho he _ (by omega), ?_, fun p hp => zW_hi ho he (by omega) _⟩
  have h := zpeaAt_in ho (Nat.le_refl T.2.1)
  rw [hc0] at h
  exact h
theorem zmg_ok {nn c e n : Nat} {k : Int} {T : zTb} (ho : zTOK nn T) (hc0 : T.1 0 = (c : Int)) (he : e < 4) (h14 : T.2.1 + n ≤ 14) (x : Nat) : 0 ≤ zmg T c e n k x ∧ zmg T c e n k x ≤ 100000000000000 := by
  have h3 := ho.1
  rw [hc0] at h3
  have h := zVs_ok (c := c) (k := k) (by omega) (zslip_ok (k := k) (ho.2.2.2.2.2.2.1 e he).1) n T.2.1 (zst0 T e) x (by omega) (zst0_ok ho hc0 he)
  have h2 : zB (T.2.1 + n) ≤ 100000000000000 := (by decide : ∀ k, k < 15 → zB k ≤ 100000000000000) _ (by omega)
  exact ⟨h.1, Int.le_trans h.2 h2⟩
theorem zmq_e {nn c e n : Nat} {k : Int} {T : zTb} (ho : zTOK nn T) (hc0 : T.1 0 = (c : Int)) (he : e < 4) (h14 : T.2.1 + n ≤ 14) (hn : n ≤ 4) : zfor (zuq (zmg T c e n k)) (zPP c ^ n) 0 (1000000000000000, 0) = zmq T c e n k ∧ ((0 ≤ (zmq T c e n k).1 ∧ (zmq T c e n k).1 ≤ 100000000000000) ∧ (zmq T c e n k).2 < zPP c ^ n) := by
  have h3 := ho.1
  rw [hc0] at h3
  have hP := zPP_w (c := c) (m := n) (by omega) (by omega) hn
  have h0 := zmg_ok (k := k) ho hc0 he h14
  have hx := zup_ok (N := zPP c ^ n) (fun x => (h0 x).1) (zPP c ^ n - 1) 1 (zmg T c e n k 0, 0) (by omega) (h0 0).1 (by show 0 < zPP c ^ n; omega)
  have e1 : zuq (zmg T c e n k) 0 (1000000000000000, 0) = (zmg T c e n k 0, 0) := if_pos (by show zmg T c e n k 0 < 1000000000000000; have := (h0 0).2; omega)
  refine ⟨?_, ⟨hx.1.1, Int.le_trans hx.1.2 (h0 0).2⟩, hx.2⟩
  obtain ⟨N, hN⟩ : ∃ N, zPP c ^ n = N + 1 := ⟨zPP c ^ n - 1, by omega⟩
  unfold zmq
  rw [hN, zfor_s, e1, Nat.add_sub_cancel]
section
variable {X : zX} {C : zC} {d n nn c e : Nat} {k : Int} {L : zLt} {S : zSt} {T : zTb} {I : Nat → Nat → Int}
theorem zh_start (hL : zLay L) (hT : zTC I 2 T) (ho : zTOK nn T) (hc0 : T.1 0 = (c : Int)) (he : e < 4) (h1 : 1 ≤ n) (hn : n ≤ 4) (h14 : T.2.1 + n ≤ 14) : ∃ I', zcal X zP (d + 12) 27 [.inr (.inr (.inl 117)), .inr (.inr (.inl 2)), .inr (.inr (.inl 83)), .inl (e : Int), .inl (n : Int), .inl k] (I, L) = some (none, (I', L)) ∧ I' 117 3 = (zmq T c e n k).1 ∧ zCs c (I' 119) n (zmq T c e n k).2 ∧ ∀ a, (a < 56 ∨ 123 ≤ a) → I' a = I a := by
  have h3 := ho.1
  rw [hc0] at h3
  have hsl := zslip_ok (k := k) (ho.2.2.2.2.2.2.1 e he).1
  have hset := fun σ h => zq_Pass_set (X := X) (d := d + 10) (σ := σ) (p := 120) (k := k) (a := 0) (b := 1) h
  generalize hI1 : zwI (zwI (zwI I 117 0 k) 117 2 (n : Int)) 117 3 1000000000000000 = I1 at *
  generalize hI2 : zwI (zwI (zwI I1 120 0 k) 120 1 0) 120 2 1 = I2 at *
  generalize hI3 : zwI I2 117 1 (zslip k (T.1 (47 + 2 * e))) = I3 at *
  have hset1 : zcal X zP (d + 11) 6 [.inr (.inr (.inl 120)), .inl k, .inl 0, .inl 1] (I1, L) = some (none, (I2, L)) := by
    rw [hset (I1, L) (zk_120 hL), zw_I, zw_I, zw_I, hI2]
  have r0 : I2 120 0 = k := by rw [← hI2, zwI_nej (by omega), zwI_nej (by omega), zwI_eq]
  have f1 : ∀ a, a ≠ 117 → I1 a = I a := fun a ha => by rw [← hI1, zwI_row ha, zwI_row ha, zwI_row ha]
  have f2 : ∀ a, a ≠ 120 → I2 a = I1 a := fun a ha => by rw [← hI2, zwI_row ha, zwI_row ha, zwI_row ha]
  have f3 : ∀ a, a ≠ 117 → I3 a = I2 a := fun a ha => by rw [← hI3, zwI_row ha]
  have f4 : ∀ a, a ≠ 117 → a ≠ 120 → I3 a = I a := fun a h1 h2 => by rw [f3 a h1, f2 a h2, f1 a h1]
  have s0 : I3 117 0 = k := by rw [← hI3, zwI_nej (by omega), f2 117 (by omega), ← hI1, zwI_nej (by omega), zwI_nej (by omega), zwI_eq]
  have s1 : I3 117 1 = zslip k (T.1 (47 + 2 * e)) := by rw [← hI3, zwI_eq]
  have s2 : I3 117 2 = (n : Int) := by rw [← hI3, zwI_nej (by omega), f2 117 (by omega), ← hI1, zwI_nej (by omega), zwI_eq]
  have s3 : I3 117 3 = 1000000000000000 := by rw [← hI3, zwI_nej (by omega), f2 117 (by omega), ← hI1, zwI_eq]
  have t1 : I2 (21 + e) 0 = T.1 (47 + 2 * e) := by
    rw [f2 (21 + e) (by omega), f1 (21 + e) (by omega)]
    exact (hT.2.2.2.2.2.2.1 e he).1
  have hsp := zq_Pass_slipOf (X := X) (d := d + 10) (σ := (I2, L)) (p := 120) (v := T.1 (47 + 2 * e)) (zk_120 hL) (ho.2.2.2.2.2.2.1 e he).1
  have hsp : zcal X zP (d + 11) 12 [.inr (.inr (.inl 120)), .inl (T.1 (47 + 2 * e))] (I2, L) = some (some (.inl (zslip k (T.1 (47 + 2 * e)))), (I2, L)) := by
    rw [hsp]
    show some (some (Sum.inl (zslip (I2 120 0) (T.1 (47 + 2 * e)))), (I2, L)) = _
    rw [r0]
  have hT3 : zTC I3 2 T := zTC_row (by omega) (fun a _ ha => f4 a (by omega) (by omega)) hT
  obtain ⟨I4, q1, q2, q3⟩ := zq_follow (X := X) (d := d + 6) (sharp := -1) hL (Or.inl rfl) he ho hT3
  have hT4 : zTC I4 2 T := zTC_row (by omega) (fun a _ ha => q2 a (by omega)) hT3
  have hpb := zq_Table_peaBehind (X := X) (d := d + 6) (ztabL hL (Or.inl rfl)) hT4 ho (k := T.2.1) (Nat.le_refl _)
  have e2 : I4 2 2 = (T.2.1 : Int) := hT4.2.2.1
  have u : ∀ j, I4 117 j = I3 117 j := fun j => by rw [q2 117 (by omega)]
  obtain ⟨z1, z2⟩ := zmq_e (k := k) ho hc0 he h14 hn
  obtain ⟨I5, b1, b2, b3⟩ := zh_all (X := X) (d := d) (L := L) (sz := T.2.1) (c := c) (n := n) (k := k) (s := zslip k (T.1 (47 + 2 * e))) hL (by omega) hsl h1 ⟨h14, hn⟩ 0 0 (zst0 T e) (1000000000000000, 0) I4 (Nat.zero_add n) ⟨hT4.1.trans hc0, e2, (u 0).trans s0, (u 1).trans s1, (u 2).trans s2⟩ (fun i hi => absurd hi (by omega)) ⟨(u 3).trans s3, fun h => absurd h (by decide)⟩ (by decide) (zst0_ok ho hc0 he) (fun p hp => q3 T.2.1 (Nat.le_refl _) p hp)
  rw [Nat.zero_mul, z1] at b2
  have b1 : zcal X zP (d + 11) 28 [.inr (.inr (.inl 117)), .inr (.inr (.inl 2)), .inr (.inr (.inl 83)), .inl 0, .inl (zpeaAt T T.2.1)] (I4, L) = some (none, (I5, L)) := b1
  have ge : (((L.2.1 4).1 = 5 ∨ (L.2.1 4).1 = 6) ∧ 0 ≤ (e : Int) ∧ (e : Int) < ((L.2.1 4).2.1 : Int)) = True := by
    rw [zk_4 hL]
    exact eq_true ⟨Or.inl rfl, by omega, show (e : Int) < ((4 : Nat) : Int) by omega⟩
  obtain ⟨y1, y2⟩ := zey hL he
  refine ⟨I5, ?_, b2.1, b2.2 (by omega), fun a ha => by rw [b3.1 a (by omega), q2 a (by omega), f4 a (by omega) (by omega)]⟩
  refine ((zcal_go zp_Search_start rfl).trans zb_Search_start_0).trans ?_
  simp only [if_true, if_false, Option.bind_some, Option.bind, Option.toList, List.cons_append, List.nil_append, zite0, zite1, zite01, znn, ite_not, true_or, or_true, true_and, and_true, zn10, zn00, zk_117 hL, zr_117_6 hL, zk_120 hL, zw_I, hI1, hset1, zb_Search_start_30, zk_2 hL, zr_2_6 hL, ge, Int.toNat_natCast, y1, y2, t1, hsp, zb_Search_start_47, zk_83 hL, hI3, q1, zb_Search_start_57, e2, hpb, zb_Search_start_69, b1, zb_Search_start_72]
end
