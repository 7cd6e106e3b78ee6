/-! WEIGHTS: a sight follows; the likeliest place. -/
section
variable {X : zX} {C : zC} {d n : Nat} {L : zLt} {S : zSt} {T : zTb}
theorem zq_fol_1 {t e : Nat} {sharp b : Int} (hL : zLay L) (hS : zSigL L t) (ht : t = 83 ∨ t = 100) (he : e < 4) : ∀ (m i : Nat) (I : Nat → Nat → Int), i + m = 6 → I (21 + e) 1 = b → ∃ I', zgo X C zc_Sight_follow 11 [some (.inr (.inr (.inl t))), some (.inr (.inr (.inl 2))), some (.inl (e : Int)), some (.inl sharp), some (.inr (.inr (.inl (21 + e)))), some (.inl (i : Int)), none] [] (I, L) = zgo X C zc_Sight_follow 51 [some (.inr (.inr (.inl t))), some (.inr (.inr (.inl 2))), some (.inl (e : Int)), some (.inl sharp), some (.inr (.inr (.inl (21 + e)))), some (.inl 0), none] [] (I', L) ∧ (∀ a j, (a ≠ t + 2 ∨ j < i) → I' a j = I a j) ∧ ∀ q, i ≤ q → q < 6 → I' (t + 2) q = zw0 b q := by
  intro m
  induction m with
  | zero =>
    intro i I hi _
    refine ⟨I, ?_, fun a j _ => rfl, fun q h1 h2 => absurd h1 (by omega)⟩
    rw [zb_Sight_follow_11, if_neg (by omega)]
  | succ m ih =>
    intro i I hi hb
    obtain ⟨s1, s2, s3, s4⟩ := hS
    obtain ⟨l3, l4⟩ := zey hL he
    have g0 : (((L.2.1 (t + 1)).1 = 5 ∨ (L.2.1 (t + 1)).1 = 6) ∧ 0 ≤ (0 : Int) ∧ (0 : Int) < ((L.2.1 (t + 1)).2.1 : Int)) = True := zcsg (k := 0) ⟨s1, s2, s3, s4⟩ (by omega)
    have e0 : L.1 (t + 1) 0 = t + 2 := (s4 0 (by omega)).1
    have ew : zw0 b i = if (i : Int) = b then 1 else 0 := rfl
    obtain ⟨I', q1, q2, q3⟩ := ih (i + 1) (zwI I (t + 2) i (zw0 b i)) (by omega) (by rw [zwI_ne (by omega)]; exact hb)
    refine ⟨I', ?_, fun a j h => (q2 a j (by omega)).trans ?_, fun q h1 h2 => ?_⟩
    · rw [zb_Sight_follow_11, if_pos (by omega)]
      simp only [if_true, if_false, Option.bind_some, Option.bind, Option.toList, List.cons_append, List.nil_append, zite0, zite1, zite01, znn, ite_not, true_or, or_true, true_and, and_true, zn10, zn00, s1, s2, g0, e0, l4, hb, zcsr0 ⟨s1, s2, s3, s4⟩ (show i < 6 by omega), Int.toNat_natCast, zw_I]
      rw [zw32n (by omega)]
      by_cases c : (i : Int) = b
      · rw [if_pos c] at ew ⊢
        rw [ew] at q1
        exact q1
      · rw [if_neg c] at ew ⊢
        rw [ew] at q1
        exact q1
    · rw [zwI_if, if_neg (by omega)]
    · by_cases h : q = i
      · rw [h, q2 _ _ (by omega), zwI_eq]
      · exact q3 q (by omega) h2
theorem zq_fol_2 {t e : Nat} {sharp : Int} (hL : zLay L) (hS : zSigL L t) (ht : t = 83 ∨ t = 100) (he : e < 4) (ho : zTOK n T) : ∀ (m i : Nat) (I : Nat → Nat → Int) (o : Option zV), i + m = T.2.1 → zTC I 2 T → (∀ k, k ≤ i → ∀ q, q < 6 → I (t + 2 + k) q = zW T e sharp k q) → ∃ I', zgo X (zcal X zP (d + 4)) zc_Sight_follow 51 [some (.inr (.inr (.inl t))), some (.inr (.inr (.inl 2))), some (.inl (e : Int)), some (.inl sharp), some (.inr (.inr (.inl (21 + e)))), some (.inl (i : Int)), o] [] (I, L) = some (none, (I', L)) ∧ (∀ a, (a < t + 2 ∨ t + 17 ≤ a) → I' a = I a) ∧ ∀ k, k ≤ T.2.1 → ∀ q, q < 6 → I' (t + 2 + k) q = zW T e sharp k q := by
  have h14 := ho.2.2.2.2.1
  intro m
  induction m with
  | zero =>
    intro i I o hi hT hk
    have e2 : I 2 2 = (T.2.1 : Int) := hT.2.2.1
    refine ⟨I, ?_, fun a _ => rfl, fun k hk' => hk k (by omega)⟩
    rw [zb_Sight_follow_51]
    simp only [if_true, if_false, Option.bind_some, Option.bind, Option.toList, List.cons_append, List.nil_append, zite0, zite1, zite01, znn, ite_not, true_or, or_true, true_and, and_true, zn10, zn00, zk_2 hL, e2]
    rw [if_neg (by omega)]
  | succ m ih =>
    intro i I o hi hT hk
    obtain ⟨s1, s2, s3, s4⟩ := hS
    obtain ⟨l3, l4⟩ := zey hL he
    obtain ⟨p3, p4⟩ := zp14 hL (show i < 14 by omega)
    have e2 : I 2 2 = (T.2.1 : Int) := hT.2.2.1
    have e20 : I 2 0 = T.1 0 := hT.1
    have es : I (21 + e) 0 = T.1 (47 + 2 * e) := (hT.2.2.2.2.2.2.1 e he).1
    obtain ⟨a1, a2, a3⟩ := hT.2.2.2.2.2.1 i (by omega)
    have a1 : I (7 + i) 0 = (T.2.2 i).1 := a1
    have a2 : I (7 + i) 1 = (T.2.2 i).2.1 := a2
    have a3 : I (7 + i) 2 = (T.2.2 i).2.2 := a3
    obtain ⟨o1, o2, o3, o4⟩ := ho.2.2.2.2.2.1 i (by omega)
    have hB := zB_le (show i ≤ 18 by omega)
    have hBi : zB i ≤ 100000000000000000 := (by decide : ∀ k, k < 18 → zB k ≤ 100000000000000000) i (by omega)
    have hsl := zslp_ok (sharp := sharp) (i := i) ho he
    obtain ⟨I1, b1, b2, b3⟩ := zq_see (X := X) (d := d) (I := I) (k := i) (p := 7 + i) (c := T.1 0) (s := zslp T e sharp i) (B := zB i) (w := zW T e sharp i) ⟨s1, s2, s3, s4⟩ (by omega) (by omega) ho.1 hsl p4 (zW_ok ho he i (by omega)) ⟨by omega, hBi⟩ (by rw [a2, a3]; exact o4) (by rw [a2]; exact o2) (by rw [a3]; exact o3) (fun q hq => hk i (Nat.le_refl i) q hq)
    rw [a1, a2, a3] at b3
    have hT1 : zTC I1 2 T := zTC_row h14 (fun a _ ha => b2 a (by omega)) hT
    obtain ⟨I', q1, q2, q3⟩ := ih (i + 1) I1 (some (.inr (.inr (.inl (7 + i))))) (by omega) hT1 (fun k hk1 q hq => by
      by_cases h : k = i + 1
      · rw [h, show t + 2 + (i + 1) = t + 3 + i by omega]; exact b3 q hq
      · rw [b2 _ (by omega)]; exact hk k (by omega) q hq)
    refine ⟨I', ?_, fun a ha => (q2 a ha).trans (b2 a (by omega)), q3⟩
    rw [zb_Sight_follow_51]
    have hslip := zq_Pass_slipOf (X := X) (d := d + 3) (σ := (I, L)) (p := 7 + i) (v := T.1 (47 + 2 * e)) p4 (ho.2.2.2.2.2.2.1 e he).1
    have hslip : zcal X zP (d + 4) 12 [.inr (.inr (.inl (7 + i))), .inl (T.1 (47 + 2 * e))] (I, L) = some (some (.inl (zslip (T.2.2 i).1 (T.1 (47 + 2 * e)))), (I, L)) := by rw [← a1]; exact hslip
    by_cases c : (i : Int) = sharp
    · have ez : zslp T e sharp i = 0 := if_pos c
      rw [ez] at b1
      simp only [if_true, if_false, Option.bind_some, Option.bind, Option.toList, List.cons_append, List.nil_append, zite0, zite1, zite01, znn, ite_not, true_or, or_true, true_and, and_true, zn10, zn00, zk_2 hL, e2, eq_true (show (i : Int) < (T.2.1 : Int) by omega), zr_2_5 hL, zc3 hL (show i < 14 by omega), Int.toNat_natCast, p3, eq_true c, zb_Sight_follow_94, s1, e20, b1, zb_Sight_follow_101]
      rw [zw32n (by omega)]
      exact q1
    · have ez : zslp T e sharp i = zslip (T.2.2 i).1 (T.1 (47 + 2 * e)) := if_neg c
      rw [ez] at b1
      simp only [if_true, if_false, Option.bind_some, Option.bind, Option.toList, List.cons_append, List.nil_append, zite0, zite1, zite01, znn, ite_not, true_or, or_true, true_and, and_true, zn10, zn00, zk_2 hL, e2, eq_true (show (i : Int) < (T.2.1 : Int) by omega), zr_2_5 hL, zc3 hL (show i < 14 by omega), Int.toNat_natCast, p3, p4, l4, es, eq_false c, hslip, zb_Sight_follow_94, s1, e20, b1, zb_Sight_follow_101]
      rw [zw32n (by omega)]
      exact q1
theorem zq_follow {I : Nat → Nat → Int} {t e : Nat} {sharp : Int} (hL : zLay L) (ht : t = 83 ∨ t = 100) (he : e < 4) (ho : zTOK n T) (hT : zTC I 2 T) : ∃ I', zcal X zP (d + 5) 35 [.inr (.inr (.inl t)), .inr (.inr (.inl 2)), .inl (e : Int), .inl sharp] (I, L) = some (none, (I', L)) ∧ (∀ a, (a < t + 2 ∨ t + 17 ≤ a) → I' a = I a) ∧ ∀ k, k ≤ T.2.1 → ∀ q, q < 6 → I' (t + 2 + k) q = zW T e sharp k q := by
  have hS := zsigL hL ht
  obtain ⟨l3, l4⟩ := zey hL he
  have eb : I (21 + e) 1 = T.1 (48 + 2 * e) := (hT.2.2.2.2.2.2.1 e he).2
  obtain ⟨I1, a1, a2, a3⟩ := zq_fol_1 (X := X) (C := zcal X zP (d + 4)) (sharp := sharp) hL hS ht he 6 0 I (by omega) eb
  have hT1 : zTC I1 2 T := zTC_row ho.2.2.2.2.1 (fun a _ ha => funext fun j => a2 a j (by omega)) hT
  obtain ⟨I', q1, q2, q3⟩ := zq_fol_2 (X := X) (d := d) (sharp := sharp) hL hS ht he ho T.2.1 0 I1 none (by omega) hT1 (fun k hk q hq => by
    rw [show k = 0 by omega]
    exact a3 q (by omega) hq)
  refine ⟨I', ?_, fun a ha => (q2 a ha).trans (funext fun j => a2 a j (by omega)), q3⟩
  refine ((zcal_go zp_Sight_follow rfl).trans zb_Sight_follow_0).trans ?_
  simp only [if_true, if_false, Option.bind_some, Option.bind, Option.toList, List.cons_append, List.nil_append, zite0, zite1, zite01, znn, ite_not, true_or, or_true, true_and, and_true, zn10, zn00, zk_2 hL, zr_2_6 hL, zc4 hL he, Int.toNat_natCast, l3]
  exact a1.trans q1
/-- the first place with most weight: so many more places, from the i-th on -/
def zhv (w : Nat → Int) : Nat → Nat → Nat → Nat
  | 0, _, b => b
  | m + 1, i, b => zhv w m (i + 1) (if w b < w i then i else b)
theorem zhv_lt {w : Nat → Int} {N : Nat} : ∀ (m i b : Nat), b < N → i + m ≤ N → zhv w m i b < N := by
  intro m
  induction m with
  | zero => intro i b hb _; exact hb
  | succ m ih =>
    intro i b hb hi
    refine ih _ _ ?_ (by omega)
    split
    · omega
    · exact hb
theorem zhv_0 {w : Nat → Int} {c : Nat} (hw : ∀ q, 0 ≤ w q) (hz : ∀ q, c ≤ q → w q = 0) : ∀ (m i b : Nat), c ≤ i → zhv w m i b = b := by
  intro m
  induction m with
  | zero => intro i b _; rfl
  | succ m ih =>
    intro i b hi
    show zhv w m (i + 1) (if w b < w i then i else b) = b
    rw [if_neg (by rw [hz i hi]; have := hw b; omega)]
    exact ih _ _ (by omega)
theorem zhv_cut {w : Nat → Int} {c : Nat} (hw : ∀ q, 0 ≤ w q) (hz : ∀ q, c ≤ q → w q = 0) : ∀ (k m i b : Nat), i + k = c → zhv w (k + m) i b = zhv w k i b := by
  intro k
  induction k with
  | zero =>
    intro m i b hi
    rw [Nat.zero_add]
    exact zhv_0 hw hz m i b (by omega)
  | succ k ih =>
    intro m i b hi
    rw [show k + 1 + m = (k + m) + 1 by omega]
    exact ih m (i + 1) _ (by omega)
theorem zhv_same {w w' : Nat → Int} {N : Nat} (h : ∀ q, q < N → w q = w' q) : ∀ (m i b : Nat), b < N → i + m ≤ N → zhv w m i b = zhv w' m i b := by
  intro m
  induction m with
  | zero => intro i b _ _; rfl
  | succ m ih =>
    intro i b hb hi
    show zhv w m (i + 1) (if w b < w i then i else b) = zhv w' m (i + 1) (if w' b < w' i then i else b)
    rw [h b hb, h i (by omega)]
    refine ih _ _ ?_ (by omega)
    split
    · omega
    · exact hb
theorem zq_lik_l {I : Nat → Nat → Int} {t k : Nat} {w : Nat → Int} (hS : zSigL L t) (hk : k < 15) (hw : ∀ q, q < 6 → I (t + 2 + k) q = w q) : ∀ (m i b : Nat), i + m = 6 → b < 6 → zgo X C zc_Sight_likeliest 4 [some (.inr (.inr (.inl t))), some (.inl (k : Int)), some (.inl (b : Int)), some (.inl (i : Int))] [] (I, L) = some (some (.inl ((zhv w m i b : Nat) : Int)), (I, L)) := by
  obtain ⟨s1, s2, s3, s4⟩ := hS
  intro m
  induction m with
  | zero =>
    intro i b hi hb
    rw [zb_Sight_likeliest_4, if_neg (by omega)]
    rfl
  | succ m ih =>
    intro i b hi hb
    rw [zb_Sight_likeliest_4, if_pos (by omega)]
    simp only [if_true, if_false, Option.bind_some, Option.bind, Option.toList, List.cons_append, List.nil_append, zite0, zite1, zite01, znn, ite_not, true_or, or_true, true_and, and_true, zn10, zn00, s1, s2, zcsg ⟨s1, s2, s3, s4⟩ hk, Int.toNat_natCast, (s4 k hk).1, zcsr ⟨s1, s2, s3, s4⟩ hk (show i < 6 by omega), zcsr ⟨s1, s2, s3, s4⟩ hk hb, hw i (by omega), hw b hb, zcmp_gt]
    rw [zw32n (by omega), ih _ _ (by omega) (by omega), ih _ _ (by omega) hb]
    have e : zhv w (m + 1) i b = zhv w m (i + 1) (if w b < w i then i else b) := rfl
    rw [e]
    split <;> rfl
theorem zq_likeliest {I : Nat → Nat → Int} {t k : Nat} {w : Nat → Int} (hS : zSigL L t) (hk : k < 15) (hw : ∀ q, q < 6 → I (t + 2 + k) q = w q) : zcal X zP (d + 1) 39 [.inr (.inr (.inl t)), .inl (k : Int)] (I, L) = some (some (.inl ((zhv w 5 1 0 : Nat) : Int)), (I, L)) := by
  refine ((zcal_go zp_Sight_likeliest rfl).trans zb_Sight_likeliest_0).trans ?_
  exact zq_lik_l hS hk hw 5 1 0 (by omega) (by omega)
end
