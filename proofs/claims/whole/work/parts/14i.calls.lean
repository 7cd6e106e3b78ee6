/-! CONTRACTS OF CALLS, closed: rings. -/
section
variable {X : zX} {d n : Nat} {L : zLt} {S : zSt}
def zring (p : Int) : Int := zfor (fun _ v => w32 (v * 15)) p.toNat 0 1
theorem zq_X_ringAt {σ : zMem} {p : Int} (hp : 0 ≤ p ∧ p ≤ 10) : zcal X zP (d + 1) 136 [.inl p] σ = some (some (.inl (zring p)), σ) := by
  obtain ⟨k, rfl⟩ := Int.eq_ofNat_of_zero_le hp.1
  have key : ∀ (m i : Nat) (v : Int), i + m = k → zgo X (zcal X zP d) zc_X_ringAt 4 [some (.inl (k : Int)), some (.inl v), some (.inl (i : Int))] [] σ = some (some (.inl (zfor (fun _ v => w32 (v * 15)) m i v)), σ) := by
    intro m
    induction m with
    | zero =>
      intro i v hi
      rw [zb_X_ringAt_4, if_neg (by omega)]
      rfl
    | succ m ih =>
      intro i v hi
      rw [zb_X_ringAt_4, if_pos (by omega), zw32n (by omega), ih _ _ (by omega)]
      rfl
  refine ((zcal_go zp_X_ringAt rfl).trans zb_X_ringAt_0).trans ?_
  exact key k 0 1 (by omega)
theorem zq_M_power {σ : zMem} {p : Int} (hp : 0 ≤ p ∧ p ≤ 10) : zcal X zP (d + 1) 192 [.inl p] σ = some (some (.inl (zring p)), σ) := by
  obtain ⟨k, rfl⟩ := Int.eq_ofNat_of_zero_le hp.1
  have key : ∀ (m i : Nat) (v : Int), i + m = k → zgo X (zcal X zP d) zc_M_power 4 [some (.inl (k : Int)), some (.inl v), some (.inl (i : Int))] [] σ = some (some (.inl (zfor (fun _ v => w32 (v * 15)) m i v)), σ) := by
    intro m
    induction m with
    | zero =>
      intro i v hi
      rw [zb_M_power_4, if_neg (by omega)]
      rfl
    | succ m ih =>
      intro i v hi
      rw [zb_M_power_4, if_pos (by omega), zw32n (by omega), ih _ _ (by omega)]
      rfl
  refine ((zcal_go zp_M_power rfl).trans zb_M_power_0).trans ?_
  exact key k 0 1 (by omega)
def zrgf (T : zTb) (i : Nat) (s : Int) : Int := w32 (s + w32 (zring (T.2.2 i).2.1 + zring (zlooks (T.2.2 i).1 (T.2.2 i).2.1 (T.2.2 i).2.2)))
def zr_rings (S : zSt) : zV × zSt := (.inl (zfor (zrgf S.1) S.1.2.1 0 0), S)
theorem zlooks_le {k a b c : Int} (hc : 3 ≤ c ∧ c ≤ 6) (hb : 0 ≤ b ∧ b < c) : 0 ≤ zlooks k a b ∧ zlooks k a b ≤ 10 := by
  have := zthird_ge (a := a) (b := b)
  unfold zlooks
  split <;> omega
theorem zx_rings_l {I : Nat → Nat → Int} (hL : zLay L) (ho : zSOK n S) (hr : zRX I S) : ∀ (m i : Nat) (s : Int) (o : Option zV), i + m = S.1.2.1 → zgo X (zcal X zP (d + 2)) zc_X_rings 4 [some (.inr (.inr (.inl 1))), some (.inl s), some (.inl (i : Int)), o] [] (I, L) = some (some (.inl (zfor (zrgf S.1) m i s)), (I, L)) := by
  have h14 := ho.1.2.2.2.2.1
  have e2 : I 2 2 = (S.1.2.1 : Int) := hr.1.2.2.1
  intro m
  induction m with
  | zero =>
    intro i s o hi
    rw [zb_X_rings_4]
    simp only [if_true, if_false, Option.bind_some, Option.bind, Option.toList, List.cons_append, List.nil_append, zite0, zite1, zite01, znn, ite_not, true_or, or_true, true_and, and_true, zk_1 hL, zr_1_0 hL, zk_2 hL, e2]
    rw [if_neg (by omega)]
    rfl
  | succ m ih =>
    intro i s o hi
    obtain ⟨l3, l4⟩ := zp14 hL (show i < 14 by omega)
    obtain ⟨p1, p2, p3⟩ := hr.1.2.2.2.2.2.1 i (by omega)
    obtain ⟨-, o5, o6, o7⟩ := ho.1.2.2.2.2.2.1 i (by omega)
    have hc := ho.1.1
    have hq := zq_Pass_looksTo (X := X) (d := d) (σ := (I, L)) (p := 7 + i) l4 (by show I (2 + 5 + i) 1 ≠ I (2 + 5 + i) 2; rw [p2, p3]; exact o7)
    have p1 : I (7 + i) 0 = _ := p1
    have p2 : I (7 + i) 1 = _ := p2
    have p3 : I (7 + i) 2 = _ := p3
    have q1 := zq_X_ringAt (X := X) (d := d + 1) (σ := (I, L)) (p := (S.1.2.2 i).2.1) (by omega)
    have q2 := zq_X_ringAt (X := X) (d := d + 1) (σ := (I, L)) (zlooks_le (k := (S.1.2.2 i).1) (a := (S.1.2.2 i).2.1) hc o6)
    rw [zb_X_rings_4]
    simp only [if_true, if_false, Option.bind_some, Option.bind, Option.toList, List.cons_append, List.nil_append, zite0, zite1, zite01, znn, ite_not, true_or, or_true, true_and, and_true, zk_1 hL, zr_1_0 hL, zk_2 hL, e2, eq_true (show (i : Int) < (S.1.2.1 : Int) by omega), zr_2_5 hL, zc3 hL (show i < 14 by omega), Int.toNat_natCast, l3, l4, p1, p2, p3, q1, zb_X_rings_33, hq, zb_X_rings_37, q2, zb_X_rings_40]
    rw [zw32n (by omega), ih _ _ _ (by omega)]
    rfl
theorem zx_rings (hL : zLay L) (ho : zSOK n S) : zHX X L (d + 3) 93 [] S (zr_rings S) := by
  intro I hr
  refine ⟨I, ?_, hr, fun a ha => rfl⟩
  refine ((zcal_go zp_X_rings rfl).trans zb_X_rings_0).trans ?_
  exact zx_rings_l hL ho hr S.1.2.1 0 0 _ (by omega)
theorem zm_rings_l {I : Nat → Nat → Int} (hL : zLay L) (ho : zSOK n S) (hr : zRM I S) : ∀ (m i : Nat) (s : Int), i + m = S.1.2.1 → zgo X (zcal X zP (d + 2)) zc_M_rings 4 [some (.inr (.inr (.inl 135))), some (.inl s), some (.inl (i : Int))] [] (I, L) = some (some (.inl (zfor (zrgf S.1) m i s)), (I, L)) := by
  have h14 := ho.1.2.2.2.2.1
  have e2 : I 136 1 = (S.1.2.1 : Int) := hr.1.2.1
  intro m
  induction m with
  | zero =>
    intro i s hi
    rw [zb_M_rings_4]
    simp only [if_true, if_false, Option.bind_some, Option.bind, Option.toList, List.cons_append, List.nil_append, zite0, zite1, zite01, znn, ite_not, true_or, or_true, true_and, and_true, zk_135 hL, zr_135_0 hL, z6_1 hL, e2]
    rw [if_neg (by omega)]
    rfl
  | succ m ih =>
    intro i s hi
    obtain ⟨-, o5, o6, o7⟩ := ho.1.2.2.2.2.2.1 i (by omega)
    have hc := ho.1.1
    have q1 := zq_M_power (X := X) (d := d + 1) (σ := (I, L)) (p := (S.1.2.2 i).2.1) (by omega)
    have q2 := zq_M_power (X := X) (d := d + 1) (σ := (I, L)) (zlooks_le (k := (S.1.2.2 i).1) (a := (S.1.2.2 i).2.1) hc o6)
    rw [zb_M_rings_4]
    simp only [if_true, if_false, Option.bind_some, Option.bind, Option.toList, List.cons_append, List.nil_append, zite0, zite1, zite01, znn, ite_not, true_or, or_true, true_and, and_true, zk_135 hL, zr_135_0 hL, z6_1 hL, e2, eq_true (show (i : Int) < (S.1.2.1 : Int) by omega), zq_M_its1 hL hr.1 ho.1 (show i < S.1.2.1 by omega), zb_M_rings_21, q1, zb_M_rings_24, zq_M_seen hL hr.1 ho.1 (show i < S.1.2.1 by omega), zb_M_rings_29, q2, zb_M_rings_32]
    rw [zw32n (by omega), ih _ _ (by omega)]
    rfl
theorem zm_rings (hL : zLay L) (ho : zSOK n S) : zHM X L (d + 3) 193 [] S (zr_rings S) := by
  intro I hr
  refine ⟨I, ?_, hr, fun a ha => rfl⟩
  refine ((zcal_go zp_M_rings rfl).trans zb_M_rings_0).trans ?_
  exact zm_rings_l hL ho hr S.1.2.1 0 0 (by omega)
theorem zA23 (hL : zLay L) : zA_23 X L := fun n S ho hn => zCI (zr_rings S) ⟨_, rfl⟩ (zx_rings (d := 37) hL ho) (zm_rings (d := 37) hL ho) (zSOK_up ho hn)
end
