/-! WEIGHTS: what they are; the class's rows. -/
def zmiss (c x y : Int) : Int := if (if y + 1 < c then y + 1 else 0) = x then (if (if y + 1 < c then y + 1 else 0) + 1 < c then (if y + 1 < c then y + 1 else 0) + 1 else 0) else (if y + 1 < c then y + 1 else 0)
def zsee (c x y s : Int) (w : Nat → Int) : Nat → Int := fun p => if (p : Int) < c then (10 - s) * w (zswap x y (p : Int)).toNat + s * w (zswap x (zmiss c x y) (p : Int)).toNat else 0
def zw0 (b : Int) : Nat → Int := fun p => if (p : Int) = b then 1 else 0
def zslp (T : zTb) (e : Nat) (sharp : Int) (i : Nat) : Int := if (i : Int) = sharp then 0 else zslip (T.2.2 i).1 (T.1 (47 + 2 * e))
def zW (T : zTb) (e : Nat) (sharp : Int) : Nat → Nat → Int
  | 0 => zw0 (T.1 (48 + 2 * e))
  | k + 1 => zsee (T.1 0) (T.2.2 k).2.1 (zlooks (T.2.2 k).1 (T.2.2 k).2.1 (T.2.2 k).2.2) (zslp T e sharp k) (zW T e sharp k)
def zwOK (B : Int) (w : Nat → Int) : Prop := ∀ p, 0 ≤ w p ∧ w p ≤ B
def zB : Nat → Int
  | 0 => 1
  | k + 1 => 10 * zB k
theorem zB_le {k : Nat} (h : k ≤ 18) : 1 ≤ zB k ∧ zB k ≤ 1000000000000000000 := (by decide : ∀ k, k < 19 → 1 ≤ zB k ∧ zB k ≤ 1000000000000000000) k (by omega)
theorem zw64 {x : Int} (h0 : 0 ≤ x) (h1 : x ≤ 1000000000000000000) : w64 x = x := by unfold w64; omega
theorem zw10 {s : Int} (hs : 0 ≤ s ∧ s ≤ 10) : w32 (10 - s) = 10 - s := by unfold w32; omega
theorem zmix {s a b B : Int} (hs : 0 ≤ s ∧ s ≤ 10) (ha : 0 ≤ a ∧ a ≤ B) (hb : 0 ≤ b ∧ b ≤ B) : (0 ≤ (10 - s) * a ∧ (10 - s) * a ≤ 10 * B) ∧ (0 ≤ s * b ∧ s * b ≤ 10 * B) ∧ 0 ≤ (10 - s) * a + s * b ∧ (10 - s) * a + s * b ≤ 10 * B := by
  rcases (show s = 0 ∨ s = 1 ∨ s = 2 ∨ s = 3 ∨ s = 4 ∨ s = 5 ∨ s = 6 ∨ s = 7 ∨ s = 8 ∨ s = 9 ∨ s = 10 by omega) with rfl | rfl | rfl | rfl | rfl | rfl | rfl | rfl | rfl | rfl | rfl <;> omega
theorem zw64m {s a b B : Int} (hs : 0 ≤ s ∧ s ≤ 10) (ha : 0 ≤ a ∧ a ≤ B) (hb : 0 ≤ b ∧ b ≤ B) (hB : 0 ≤ B ∧ B ≤ 100000000000000000) : w64 (w64 ((10 - s) * a) + w64 (s * b)) = (10 - s) * a + s * b := by
  have mx := zmix hs ha hb
  have h10 : 10 * B ≤ 1000000000000000000 := by omega
  rw [zw64 mx.1.1 (Int.le_trans mx.1.2 h10), zw64 mx.2.1.1 (Int.le_trans mx.2.1.2 h10), zw64 mx.2.2.1 (Int.le_trans mx.2.2.2 h10)]
theorem zsee_ok {c x y s B : Int} {w : Nat → Int} (hs : 0 ≤ s ∧ s ≤ 10) (hB : 0 ≤ B) (h : zwOK B w) : zwOK (10 * B) (zsee c x y s w) := by
  intro p
  unfold zsee
  split
  · exact (zmix hs (h _) (h _)).2.2
  · omega
theorem zsee_hi {c x y s : Int} {w : Nat → Int} {p : Nat} (h : c ≤ (p : Int)) : zsee c x y s w p = 0 := if_neg (by omega)
theorem zslip_ok {k s : Int} (h : 0 ≤ s ∧ s ≤ 10) : 0 ≤ zslip k s ∧ zslip k s ≤ 10 := by
  unfold zslip
  split
  · omega
  · split
    · split <;> omega
    · exact h
theorem zslp_ok {n e i : Nat} {sharp : Int} {T : zTb} (ho : zTOK n T) (he : e < 4) : 0 ≤ zslp T e sharp i ∧ zslp T e sharp i ≤ 10 := by
  unfold zslp
  split
  · omega
  · exact zslip_ok (ho.2.2.2.2.2.2.1 e he).1
theorem zW_ok {n e : Nat} {sharp : Int} {T : zTb} (ho : zTOK n T) (he : e < 4) : ∀ k, k ≤ 18 → zwOK (zB k) (zW T e sharp k) := by
  intro k
  induction k with
  | zero =>
    intro _ p
    show 0 ≤ (if (p : Int) = T.1 (48 + 2 * e) then (1 : Int) else 0) ∧ (if (p : Int) = T.1 (48 + 2 * e) then (1 : Int) else 0) ≤ 1
    split <;> omega
  | succ k ih =>
    intro hk
    exact zsee_ok (zslp_ok ho he) (by have := (zB_le (show k ≤ 18 by omega)).1; omega) (ih (by omega))
theorem zW_hi {n e : Nat} {sharp : Int} {T : zTb} (ho : zTOK n T) (he : e < 4) {p : Nat} (hp : T.1 0 ≤ (p : Int)) : ∀ k, zW T e sharp k p = 0 := by
  intro k
  cases k with
  | zero =>
    have := (ho.2.2.2.2.2.2.1 e he).2
    exact if_neg (by omega)
  | succ k => exact zsee_hi hp
theorem zswap_in {c x y p : Int} (hx : 0 ≤ x ∧ x < c) (hy : 0 ≤ y ∧ y < c) (hp : 0 ≤ p ∧ p < c) : 0 ≤ zswap x y p ∧ zswap x y p < c := by
  unfold zswap
  split
  · exact hy
  · split
    · exact hx
    · exact hp
theorem zmiss_in {c x y : Int} (hc : 3 ≤ c) (hy : 0 ≤ y ∧ y < c) : 0 ≤ zmiss c x y ∧ zmiss c x y < c := by
  unfold zmiss
  repeat' split
  all_goals omega
theorem zlooks_in {c k a b : Int} (hc : 3 ≤ c) (hb : 0 ≤ b ∧ b < c) : 0 ≤ zlooks k a b ∧ zlooks k a b < c := by
  have := zthird_ge (a := a) (b := b)
  unfold zlooks
  split <;> omega
theorem zsee_same {c x y s : Int} {w w' : Nat → Int} (hc : 3 ≤ c ∧ c ≤ 6) (hx : 0 ≤ x ∧ x < c) (hy : 0 ≤ y ∧ y < c) (h : ∀ q, q < 6 → w q = w' q) {i : Nat} (hi : (i : Int) < c) : zsee c x y s w i = zsee c x y s w' i := by
  have u1 := zswap_in (p := (i : Int)) hx hy (by omega)
  have u2 := zswap_in (p := (i : Int)) hx (zmiss_in (x := x) hc.1 hy) (by omega)
  have a1 : (zswap x y (i : Int)).toNat < 6 := by omega
  have a2 : (zswap x (zmiss c x y) (i : Int)).toNat < 6 := by omega
  unfold zsee
  rw [h _ a1, h _ a2]
theorem zsee_in {c x y s : Int} {w : Nat → Int} {i v1 v2 : Nat} (hi : (i : Int) < c) (e1 : zswap x y (i : Int) = (v1 : Int)) (e2 : zswap x (zmiss c x y) (i : Int) = (v2 : Int)) : zsee c x y s w i = (10 - s) * w v1 + s * w v2 := by
  refine (if_pos hi).trans ?_
  rw [e1, e2, Int.toNat_natCast, Int.toNat_natCast]
/-- how the rows of a sight lie -/
def zSigL (L : zLt) (t : Nat) : Prop := L.2.1 t = (1, (6, 0)) ∧ L.1 t 0 = t + 1 ∧ L.2.1 (t + 1) = (6, (15, 0)) ∧ ∀ i, i < 15 → L.1 (t + 1) i = t + 2 + i ∧ L.2.1 (t + 2 + i) = (3, (6, 0))
theorem zsigL {L : zLt} (h : zLay L) {t : Nat} (ht : t = 83 ∨ t = 100) : zSigL L t := by
  obtain ⟨h1, h2, -⟩ := h
  rcases ht with rfl | rfl
  · exact ⟨h1 (83, (1, (6, 0))) (by decide +kernel), h2 (83, (0, 84)) (by decide +kernel), h1 (84, (6, (15, 0))) (by decide +kernel), fun i hi => ⟨h2 (84, (i, 83 + 2 + i)) ((by decide +kernel : ∀ i, i < 15 → ((84, (i, 83 + 2 + i)) : Nat × (Nat × Nat)) ∈ zRtab) i hi), h1 (83 + 2 + i, (3, (6, 0))) ((by decide +kernel : ∀ i, i < 15 → ((83 + 2 + i, (3, (6, 0))) : Nat × (Nat × (Nat × Nat))) ∈ zKtab) i hi)⟩⟩
  · exact ⟨h1 (100, (1, (6, 0))) (by decide +kernel), h2 (100, (0, 101)) (by decide +kernel), h1 (101, (6, (15, 0))) (by decide +kernel), fun i hi => ⟨h2 (101, (i, 100 + 2 + i)) ((by decide +kernel : ∀ i, i < 15 → ((101, (i, 100 + 2 + i)) : Nat × (Nat × Nat)) ∈ zRtab) i hi), h1 (100 + 2 + i, (3, (6, 0))) ((by decide +kernel : ∀ i, i < 15 → ((100 + 2 + i, (3, (6, 0))) : Nat × (Nat × (Nat × Nat))) ∈ zKtab) i hi)⟩⟩
theorem zcsg {L : zLt} {t k : Nat} (hS : zSigL L t) (h : k < 15) : (((L.2.1 (t + 1)).1 = 5 ∨ (L.2.1 (t + 1)).1 = 6) ∧ 0 ≤ (k : Int) ∧ (k : Int) < ((L.2.1 (t + 1)).2.1 : Int)) = True := by
  rw [hS.2.2.1]
  exact eq_true ⟨Or.inr rfl, by omega, by show (k : Int) < ((15 : Nat) : Int); omega⟩
theorem zcsr {L : zLt} {t k i : Nat} (hS : zSigL L t) (h : k < 15) (hi : i < 6) : ((L.2.1 (t + 2 + k)).1 = 3 ∧ 0 ≤ (i : Int) ∧ (i : Int) < ((L.2.1 (t + 2 + k)).2.1 : Int)) = True := by
  rw [(hS.2.2.2 k h).2]
  exact eq_true ⟨rfl, by omega, by show (i : Int) < ((6 : Nat) : Int); omega⟩
theorem zcsr0 {L : zLt} {t i : Nat} (hS : zSigL L t) (hi : i < 6) : ((L.2.1 (t + 2)).1 = 3 ∧ 0 ≤ (i : Int) ∧ (i : Int) < ((L.2.1 (t + 2)).2.1 : Int)) = True := zcsr (k := 0) hS (by omega) hi
section
variable {X : zX} {C : zC} {d n : Nat} {L : zLt} {S : zSt} {T : zTb}
theorem zq_at {I : Nat → Nat → Int} {t k : Nat} (hS : zSigL L t) (hk : k < 15) {p : Int} (hp : -1 ≤ p ∧ p < 6) : zcal X zP (d + 1) 38 [.inr (.inr (.inl t)), .inl (k : Int), .inl p] (I, L) = some (some (.inr (.inl (if p < 0 then 0 else I (t + 2 + k) p.toNat))), (I, L)) := by
  obtain ⟨s1, s2, s3, s4⟩ := hS
  refine ((zcal_go zp_Sight_at rfl).trans zb_Sight_at_0).trans ?_
  by_cases h : p < 0
  · rw [if_pos h, if_pos h]
  · obtain ⟨q, rfl⟩ := Int.eq_ofNat_of_zero_le (show 0 ≤ p by omega)
    rw [if_neg h, if_neg h]
    simp only [if_true, if_false, Option.bind_some, Option.bind, Option.toList, List.cons_append, List.nil_append, zite0, zite1, zite01, znn, ite_not, true_or, or_true, true_and, and_true, zn10, zn00, s1, s2, zcsg ⟨s1, s2, s3, s4⟩ hk, Int.toNat_natCast, (s4 k hk).1, zcsr ⟨s1, s2, s3, s4⟩ hk (show q < 6 by omega)]
theorem zq_seenAt {I : Nat → Nat → Int} {t k p : Nat} {c s B : Int} (hS : zSigL L t) (hk : k < 15) (hc : 3 ≤ c ∧ c ≤ 6) (hs : 0 ≤ s ∧ s ≤ 10) (hp : L.2.1 p = (1, (2, 0))) (hab : I p 1 ≠ I p 2) (ha : 0 ≤ I p 1 ∧ I p 1 < c) (hb : 0 ≤ I p 2 ∧ I p 2 < c) (hw : ∀ q, q < 6 → 0 ≤ I (t + 2 + k) q ∧ I (t + 2 + k) q ≤ B) (hB : 0 ≤ B ∧ B ≤ 100000000000000000) {i : Nat} (hi : (i : Int) < c) : zcal X zP (d + 3) 37 [.inr (.inr (.inl t)), .inl (k : Int), .inr (.inr (.inl p)), .inl s, .inl c, .inl (i : Int)] (I, L) = some (some (.inr (.inl (zsee c (I p 1) (zlooks (I p 0) (I p 1) (I p 2)) s (I (t + 2 + k)) i))), (I, L)) := by
  have hL1 := zlooks_in (k := I p 0) (a := I p 1) hc.1 hb
  have hL2 := zmiss_in (x := I p 1) hc.1 hL1
  have hq := zq_Pass_looksTo (X := X) (d := d) (σ := (I, L)) (p := p) hp hab
  obtain ⟨s1, s2, s3, s4⟩ := hS
  generalize hy : zlooks (I p 0) (I p 1) (I p 2) = y at hL1 hL2 hq ⊢
  have hq : zcal X zP (d + 2) 8 [.inr (.inr (.inl p))] (I, L) = some (some (.inl y), (I, L)) := by first | exact hq | exact hq.trans (congrArg (fun z => some (some (Sum.inl z), (I, L))) hy)
  clear hy
  generalize hx : I p 1 = x at ha hL2 ⊢
  have u1 := zswap_in (p := (i : Int)) ha hL1 (by omega)
  have u2 := zswap_in (p := (i : Int)) ha hL2 (by omega)
  obtain ⟨v1, e1⟩ := Int.eq_ofNat_of_zero_le u1.1
  obtain ⟨v2, e2⟩ := Int.eq_ofNat_of_zero_le u2.1
  have hv1 : v1 < 6 := by omega
  have hv2 : v2 < 6 := by omega
  have ez := zsee_in (s := s) (w := I (t + 2 + k)) hi e1 e2
  have w1 := zq_X_swapped (X := X) (d := d + 1) (σ := (I, L)) (a := x) (b := y) (v := (i : Int))
  have w2 := zq_X_swapped (X := X) (d := d + 1) (σ := (I, L)) (a := x) (b := zmiss c x y) (v := (i : Int))
  rw [e1] at w1
  rw [e2] at w2
  clear e1 e2 u1 u2
  have n1 := zq_X_next (X := X) (d := d + 1) (σ := (I, L)) (v := y) (n := c) (by omega)
  have hz : zmiss c x y = if (if y + 1 < c then y + 1 else 0) = x then (if (if y + 1 < c then y + 1 else 0) + 1 < c then (if y + 1 < c then y + 1 else 0) + 1 else 0) else (if y + 1 < c then y + 1 else 0) := rfl
  have hm0 : 0 ≤ (if y + 1 < c then y + 1 else 0) ∧ (if y + 1 < c then y + 1 else 0) < 100 := by split <;> omega
  generalize (if y + 1 < c then y + 1 else 0) = m at hz hm0 n1
  have n2 := zq_X_next (X := X) (d := d + 1) (σ := (I, L)) (v := m) (n := c) hm0
  have hmz : zmiss c x y = if m = x then (if m + 1 < c then m + 1 else 0) else m := hz
  rw [ez]
  refine ((zcal_go zp_Sight_seenAt rfl).trans zb_Sight_seenAt_0).trans ?_
  by_cases hmx : m = x
  · rw [if_pos hmx] at hmz
    rw [← hmz] at n2
    simp only [if_true, if_false, Option.bind_some, Option.bind, Option.toList, List.cons_append, List.nil_append, zite0, zite1, zite01, znn, ite_not, true_or, or_true, true_and, and_true, zn10, zn00, hp, hq, hx, zb_Sight_seenAt_10, n1, zb_Sight_seenAt_19, eq_true hmx, n2, zb_Sight_seenAt_35, s1, s2, zcsg ⟨s1, s2, s3, s4⟩ hk, Int.toNat_natCast, (s4 k hk).1, w1, zb_Sight_seenAt_52, zcsr ⟨s1, s2, s3, s4⟩ hk hv1, w2, zb_Sight_seenAt_70, zcsr ⟨s1, s2, s3, s4⟩ hk hv2, zw10 hs, zw64m hs (hw v1 hv1) (hw v2 hv2) hB]
  · rw [if_neg hmx] at hmz
    rw [← hmz] at n1 hmx
    simp only [if_true, if_false, Option.bind_some, Option.bind, Option.toList, List.cons_append, List.nil_append, zite0, zite1, zite01, znn, ite_not, true_or, or_true, true_and, and_true, zn10, zn00, hp, hq, hx, zb_Sight_seenAt_10, n1, zb_Sight_seenAt_19, eq_false hmx, s1, s2, zcsg ⟨s1, s2, s3, s4⟩ hk, Int.toNat_natCast, (s4 k hk).1, w1, zb_Sight_seenAt_52, zcsr ⟨s1, s2, s3, s4⟩ hk hv1, w2, zb_Sight_seenAt_70, zcsr ⟨s1, s2, s3, s4⟩ hk hv2, zw10 hs, zw64m hs (hw v1 hv1) (hw v2 hv2) hB]
theorem zq_see_1 {t k p c : Nat} {s B x y : Int} {w : Nat → Int} (hS : zSigL L t) (hk : k < 14) (hpt : p < t ∨ t + 17 ≤ p) (hc : 3 ≤ c ∧ c ≤ 6) (hs : 0 ≤ s ∧ s ≤ 10) (hp : L.2.1 p = (1, (2, 0))) (hw : zwOK B w) (hB : 0 ≤ B ∧ B ≤ 100000000000000000) : ∀ (m i : Nat) (I : Nat → Nat → Int), i + m = c → I p 1 ≠ I p 2 → (0 ≤ I p 1 ∧ I p 1 < c) → (0 ≤ I p 2 ∧ I p 2 < c) → I p 1 = x → zlooks (I p 0) (I p 1) (I p 2) = y → (∀ q, q < 6 → I (t + 2 + k) q = w q) → ∃ I', zgo X (zcal X zP (d + 3)) zc_Sight_see 3 [some (.inr (.inr (.inl t))), some (.inl (k : Int)), some (.inr (.inr (.inl p))), some (.inl s), some (.inl (c : Int)), some (.inl (i : Int))] [] (I, L) = zgo X (zcal X zP (d + 3)) zc_Sight_see 42 [some (.inr (.inr (.inl t))), some (.inl (k : Int)), some (.inr (.inr (.inl p))), some (.inl s), some (.inl (c : Int)), some (.inl (c : Int))] [] (I', L) ∧ (∀ a j, (a ≠ t + 3 + k ∨ j < i) → I' a j = I a j) ∧ ∀ q, i ≤ q → q < c → I' (t + 3 + k) q = zsee (c : Int) x y s w q := by
  intro m
  induction m with
  | zero =>
    intro i I hi _ _ _ _ _ _
    refine ⟨I, ?_, fun a j _ => rfl, fun q h1 h2 => absurd h1 (by omega)⟩
    rw [zb_Sight_see_3, if_neg (by omega)]
  | succ m ih =>
    intro i I hi hab ha hb hx hy hI
    obtain ⟨s1, s2, s3, s4⟩ := hS
    have e2 : L.1 (t + 1) (k + 1) = t + 3 + k := by rw [(s4 (k + 1) (by omega)).1]; omega
    have g2 : ((L.2.1 (t + 3 + k)).1 = 3 ∧ 0 ≤ (i : Int) ∧ (i : Int) < ((L.2.1 (t + 3 + k)).2.1 : Int)) = True := by
      have := zcsr (L := L) (t := t) (k := k + 1) (i := i) ⟨s1, s2, s3, s4⟩ (by omega) (by omega)
      rw [show t + 2 + (k + 1) = t + 3 + k by omega] at this
      exact this
    obtain ⟨I', q1, q2, q3⟩ := ih (i + 1) (zwI I (t + 3 + k) i (zsee (c : Int) x y s w i)) (by omega) (by rw [zwI_ne (by omega), zwI_ne (by omega)]; exact hab) (by rw [zwI_ne (by omega)]; exact ha) (by rw [zwI_ne (by omega)]; exact hb) (by rw [zwI_ne (by omega)]; exact hx) (by rw [zwI_ne (by omega), zwI_ne (by omega), zwI_ne (by omega)]; exact hy) (fun q hq => by rw [zwI_ne (by omega)]; exact hI q hq)
    have f1 : ∀ a j, (a ≠ t + 3 + k ∨ j < i) → I' a j = I a j := fun a j h => (q2 a j (by omega)).trans (by rw [zwI_if, if_neg (by omega)])
    have f2 : ∀ q, i ≤ q → q < c → I' (t + 3 + k) q = zsee (c : Int) x y s w q := by
      intro q h1 h2
      by_cases he : q = i
      · rw [he, q2 _ _ (by omega), zwI_eq]
      · exact q3 q (by omega) h2
    refine ⟨I', ?_, f1, f2⟩
    have hcc : 3 ≤ (c : Int) ∧ (c : Int) ≤ 6 := by omega
    have hic : (i : Int) < (c : Int) := by omega
    have hk15 : k < 15 := by omega
    have hk16 : k + 1 < 15 := by omega
    have hkm : k < 1000000 := by omega
    have him : i < 1000000 := by omega
    have hq := zq_seenAt (X := X) (d := d) (I := I) (c := (c : Int)) (s := s) (B := B) ⟨s1, s2, s3, s4⟩ hk15 hcc hs hp hab ha hb (fun q hq => by rw [hI q hq]; exact hw q) hB (i := i) hic
    have hxx : 0 ≤ x ∧ x < (c : Int) := hx ▸ ha
    have hyy : 0 ≤ y ∧ y < (c : Int) := hy ▸ zlooks_in hcc.1 hb
    have ew := zsee_same (s := s) hcc hxx hyy hI hic
    rw [hx] at hq hy
    rw [hy, ew] at hq
    rw [zb_Sight_see_3, if_pos hic]
    simp only [if_true, if_false, Option.bind_some, Option.bind, Option.toList, List.cons_append, List.nil_append, zite0, zite1, zite01, znn, ite_not, true_or, or_true, true_and, and_true, zn10, zn00, s1, s2, zw32n hkm, zcsg ⟨s1, s2, s3, s4⟩ hk16, Int.toNat_natCast, e2, hq, zb_Sight_see_31, g2, zw_I]
    rw [zw32n him]
    exact q1
theorem zq_see_2 {t k p : Nat} {s c : Int} (hS : zSigL L t) (hk : k < 14) : ∀ (m i : Nat) (I : Nat → Nat → Int), i + m = 6 → ∃ I', zgo X C zc_Sight_see 42 [some (.inr (.inr (.inl t))), some (.inl (k : Int)), some (.inr (.inr (.inl p))), some (.inl s), some (.inl c), some (.inl (i : Int))] [] (I, L) = some (none, (I', L)) ∧ (∀ a j, (a ≠ t + 3 + k ∨ j < i) → I' a j = I a j) ∧ ∀ q, i ≤ q → q < 6 → I' (t + 3 + k) q = 0 := by
  intro m
  induction m with
  | zero =>
    intro i I hi
    refine ⟨I, ?_, fun a j _ => rfl, fun q h1 h2 => absurd h1 (by omega)⟩
    rw [zb_Sight_see_42, if_neg (by omega)]
  | succ m ih =>
    intro i I hi
    obtain ⟨s1, s2, s3, s4⟩ := hS
    have e2 : L.1 (t + 1) (k + 1) = t + 3 + k := by rw [(s4 (k + 1) (by omega)).1]; omega
    have g2 : ((L.2.1 (t + 3 + k)).1 = 3 ∧ 0 ≤ (i : Int) ∧ (i : Int) < ((L.2.1 (t + 3 + k)).2.1 : Int)) = True := by
      have := zcsr (L := L) (t := t) (k := k + 1) (i := i) ⟨s1, s2, s3, s4⟩ (by omega) (by omega)
      rw [show t + 2 + (k + 1) = t + 3 + k by omega] at this
      exact this
    obtain ⟨I', q1, q2, q3⟩ := ih (i + 1) (zwI I (t + 3 + k) i 0) (by omega)
    refine ⟨I', ?_, fun a j h => (q2 a j (by omega)).trans ?_, fun q h1 h2 => ?_⟩
    · rw [zb_Sight_see_42, if_pos (by omega)]
      simp only [if_true, if_false, Option.bind_some, Option.bind, Option.toList, List.cons_append, List.nil_append, zite0, zite1, zite01, znn, ite_not, true_or, or_true, true_and, and_true, zn10, zn00, s1, s2, zw32n (show k < 1000000 by omega), zcsg ⟨s1, s2, s3, s4⟩ (show k + 1 < 15 by omega), Int.toNat_natCast, e2, g2, zw_I]
      rw [zw32n (by omega)]
      exact q1
    · rw [zwI_if, if_neg (by omega)]
    · by_cases he : q = i
      · rw [he, q2 _ _ (by omega), zwI_eq]
      · exact q3 q (by omega) h2
theorem zq_see {I : Nat → Nat → Int} {t k p : Nat} {c s B : Int} {w : Nat → Int} (hS : zSigL L t) (hk : k < 14) (hpt : p < t ∨ t + 17 ≤ p) (hc : 3 ≤ c ∧ c ≤ 6) (hs : 0 ≤ s ∧ s ≤ 10) (hp : L.2.1 p = (1, (2, 0))) (hw : zwOK B w) (hB : 0 ≤ B ∧ B ≤ 100000000000000000) (hab : I p 1 ≠ I p 2) (ha : 0 ≤ I p 1 ∧ I p 1 < c) (hb : 0 ≤ I p 2 ∧ I p 2 < c) (hI : ∀ q, q < 6 → I (t + 2 + k) q = w q) : ∃ I', zcal X zP (d + 4) 36 [.inr (.inr (.inl t)), .inl (k : Int), .inr (.inr (.inl p)), .inl s, .inl c] (I, L) = some (none, (I', L)) ∧ (∀ a, a ≠ t + 3 + k → I' a = I a) ∧ ∀ q, q < 6 → I' (t + 3 + k) q = zsee c (I p 1) (zlooks (I p 0) (I p 1) (I p 2)) s w q := by
  obtain ⟨c, rfl⟩ := Int.eq_ofNat_of_zero_le (show 0 ≤ c by omega)
  obtain ⟨I1, a1, a2, a3⟩ := zq_see_1 (X := X) (d := d) (c := c) hS hk hpt (by omega) hs hp hw hB c 0 I (by omega) hab ha hb rfl rfl hI
  obtain ⟨I2, b1, b2, b3⟩ := zq_see_2 (X := X) (C := zcal X zP (d + 3)) (p := p) (s := s) (c := (c : Int)) hS hk (6 - c) c I1 (by omega)
  refine ⟨I2, ?_, fun a ha => funext fun j => (b2 a j (by omega)).trans (a2 a j (by omega)), fun q hq => ?_⟩
  · refine ((zcal_go zp_Sight_see rfl).trans zb_Sight_see_0).trans ?_
    exact a1.trans b1
  · by_cases h : q < c
    · exact (b2 _ _ (by omega)).trans (a3 q (by omega) h)
    · rw [b3 q (by omega) hq, zsee_hi (by omega)]
end
