/-! CONTRACTS OF CALLS: both. -/
theorem zcmp_eq0 {x y : Int} : (zcmp x y = 0) = (x = y) := by
  unfold zcmp
  by_cases h : x < y
  · rw [if_pos h]
    exact propext ⟨fun e => absurd e (by decide), fun e => by omega⟩
  · rw [if_neg h]
    by_cases h2 : x = y
    · rw [if_pos h2]
      exact propext ⟨fun _ => h2, fun _ => rfl⟩
    · rw [if_neg h2]
      exact propext ⟨fun e => absurd e (by decide), fun e => absurd e h2⟩
theorem zhv_s {u : Nat → Int} {m i b : Nat} : zhv u (m + 1) i b = zhv u m (i + 1) (if u b < u i then i else b) := rfl
theorem zhv_ge {u : Nat → Int} : ∀ (m i b : Nat), u b ≤ u (zhv u m i b) := by
  intro m
  induction m with
  | zero => intro i b; exact Int.le_refl _
  | succ m ih =>
    intro i b
    rw [zhv_s]
    refine Int.le_trans ?_ (ih _ _)
    split
    · next h => exact Int.le_of_lt h
    · exact Int.le_refl _
theorem zbl_zhv {u : Nat → Int} : ∀ (m i b : Nat), zbl u m i (b : Int) (u b) = ((zhv u m i b : Nat) : Int) := by
  intro m
  induction m with
  | zero => intro i b; rfl
  | succ m ih =>
    intro i b
    rw [zbl_s, zhv_s]
    by_cases c : u b < u i
    · rw [if_pos c, if_pos c]; exact ih _ _
    · rw [if_neg c, if_neg c]; exact ih _ _
theorem zbl_none {u : Nat → Int} (hu : ∀ q, 0 ≤ u q) : ∀ (m i b : Nat), u b = 0 → zbl u m i (-1) 0 = if u (zhv u m i b) = 0 then -1 else ((zhv u m i b : Nat) : Int) := by
  intro m
  induction m with
  | zero => intro i b hb; exact (if_pos hb).symm
  | succ m ih =>
    intro i b hb
    rw [zbl_s, zhv_s]
    by_cases c : 0 < u i
    · have h1 := zhv_ge (u := u) m (i + 1) i
      have h2 : ¬ u (zhv u m (i + 1) i) = 0 := by omega
      rw [if_pos c, if_pos (show u b < u i by omega), if_neg h2]
      exact zbl_zhv m (i + 1) i
    · rw [if_neg c, if_neg (show ¬ u b < u i by omega)]
      exact ih _ _ hb
theorem zbl_both {u : Nat → Int} (hu : ∀ q, 0 ≤ u q) : zbl u 6 0 (-1) 0 = if u (zhv u 5 1 0) = 0 then -1 else ((zhv u 5 1 0 : Nat) : Int) := by
  rw [zbl_s]
  by_cases c : 0 < u 0
  · have h1 := zhv_ge (u := u) 5 1 0
    have h2 : ¬ u (zhv u 5 1 0) = 0 := by omega
    rw [if_pos c, if_neg h2]
    exact zbl_zhv 5 1 0
  · rw [if_neg c]
    have := hu 0
    exact zbl_none hu 5 1 0 (by omega)
def zu2 (T : zTb) (a b : Nat) (q : Nat) : Int := zW T a (-1) T.2.1 q * zW T b (-1) T.2.1 q
theorem zu2_ok {n a b : Nat} {T : zTb} (ho : zTOK n T) (ha : a < 4) (hb : b < 4) (h9 : T.2.1 ≤ 9) (q : Nat) : 0 ≤ zu2 T a b q ∧ zu2 T a b q ≤ 1000000000000000000 := by
  have h1 := zW_ok (sharp := -1) ho ha T.2.1 (by omega) q
  have h2 := zW_ok (sharp := -1) ho hb T.2.1 (by omega) q
  have h3 : zB T.2.1 ≤ 1000000000 := (by decide : ∀ k, k < 10 → zB k ≤ 1000000000) _ (by omega)
  refine ⟨Int.mul_nonneg h1.1 h2.1, ?_⟩
  have h4 := Int.mul_le_mul (Int.le_trans h1.2 h3) (Int.le_trans h2.2 h3) h2.1 (by decide)
  exact h4
section
variable {X : zX} {C : zC} {d n : Nat} {L : zLt} {S : zSt} {T : zTb} {I : Nat → Nat → Int}
theorem zq_likW_l (hL : zLay L) {N : Nat} {w1 w2 u : Nat → Int} (hN : N < 15) (h1 : ∀ q, q < 6 → I (83 + 2 + N) q = w1 q) (h2 : ∀ q, q < 6 → I (100 + 2 + N) q = w2 q) (hu : ∀ q, w1 q * w2 q = u q) (hb : ∀ q, 0 ≤ u q ∧ u q ≤ 1000000000000000000) : ∀ (m i : Nat) (b mo : Int) (o : Option zV), i + m = 6 → zgo X C zc_Sight_likeliestWith 8 [some (.inr (.inr (.inl 83))), some (.inr (.inr (.inl 100))), some (.inl (N : Int)), some (.inl b), some (.inr (.inl mo)), none, some (.inl (i : Int)), o, none] [] (I, L) = some (some (.inl (zbl u m i b mo)), (I, L)) := by
  obtain ⟨s1, s2, s3, s4⟩ := zsigL hL (t := 83) (Or.inl rfl)
  obtain ⟨t1, t2, t3, t4⟩ := zsigL hL (t := 100) (Or.inr rfl)
  intro m
  induction m with
  | zero =>
    intro i b mo o hi
    rw [zb_Sight_likeliestWith_8, if_neg (by omega)]
    rfl
  | succ m ih =>
    intro i b mo o hi
    have hi6 : i < 6 := by omega
    have him : i < 1000000 := by omega
    have hii : (i : Int) < 6 := by omega
    have ih1 := ih (i + 1) (i : Int) (u i) (some (.inr (.inl (u i)))) (by omega)
    have ih2 := ih (i + 1) b mo (some (.inr (.inl (u i)))) (by omega)
    rw [zb_Sight_likeliestWith_8, if_pos hii, zbl_s]
    simp only [if_true, if_false, Option.bind_some, Option.bind, Option.toList, List.cons_append, List.nil_append, zite0, zite1, zite01, znn, ite_not, true_or, or_true, true_and, and_true, zn10, zn00, s1, s2, t1, t2, zcsg ⟨s1, s2, s3, s4⟩ hN, zcsg ⟨t1, t2, t3, t4⟩ hN, Int.toNat_natCast, (s4 N hN).1, (t4 N hN).1, zcsr ⟨s1, s2, s3, s4⟩ hN hi6, zcsr ⟨t1, t2, t3, t4⟩ hN hi6, h1 i hi6, h2 i hi6, hu, zw64 (hb i).1 (hb i).2, zcmp_gt]
    rw [zw32n him, ih1, ih2]
    split <;> rfl
def zr_both (S : zSt) (a b : Int) : zV × zSt := if (0 ≤ a ∧ a ≤ 3) ∧ (0 ≤ b ∧ b ≤ 3) ∧ a ≠ b then (if 9 < S.1.2.1 then (.inl (-1000007), zSf S 6) else if zu2 S.1 a.toNat b.toNat (zhv (zu2 S.1 a.toNat b.toNat) 5 1 0) = 0 then (.inl (-1000004), zSf S 3) else (.inl ((zhv (zu2 S.1 a.toNat b.toNat) 5 1 0 : Nat) : Int), S)) else (.inl (-1000001), zSf S 0)
theorem zx_both (hL : zLay L) (ho : zSOK n S) {a b : Int} : zHX X L (d + 6) 84 [.inl a, .inl b] S (zr_both S a b) := by
  intro I hr
  have hb := zq_X_isEye (X := X) (d := d + 3) (σ := (I, L)) (v := a)
  have hc := zq_X_isEye (X := X) (d := d + 3) (σ := (I, L)) (v := b)
  have e2 : I 2 2 = (S.1.2.1 : Int) := hr.1.2.2.1
  obtain ⟨J, h1, h2, h3⟩ := zX_tellc (X := X) (d := d + 4) (k := 0) (c := -1000001) hL ho (by omega) (by omega) hr
  unfold zr_both
  by_cases ha : 0 ≤ a ∧ a ≤ 3
  · rw [if_pos ha] at hb
    by_cases hbb : 0 ≤ b ∧ b ≤ 3
    · rw [if_pos hbb] at hc
      by_cases hab : a = b
      · rw [if_neg (fun h => h.2.2 hab)]
        refine ⟨J, ?_, h2, h3⟩
        refine ((zcal_go zp_X_both rfl).trans zb_X_both_0).trans ?_
        simp only [if_true, if_false, Option.bind_some, Option.bind, Option.toList, List.cons_append, List.nil_append, zite0, zite1, zite01, znn, ite_not, true_or, or_true, true_and, and_true, zn10, zn00, zk_1 hL, zr_1_0 hL, zk_2 hL, hb, hc, zb_X_both_4, zb_X_both_11, eq_true hab, h1, zb_X_both_25]
      · rw [if_pos ⟨ha, hbb, hab⟩]
        by_cases h9 : 9 < S.1.2.1
        · rw [if_pos h9]
          obtain ⟨J, h1, h2, h3⟩ := zX_tellc (X := X) (d := d + 4) (k := 6) (c := -1000007) hL ho (by omega) (by omega) hr
          refine ⟨J, ?_, h2, h3⟩
          refine ((zcal_go zp_X_both rfl).trans zb_X_both_0).trans ?_
          simp only [if_true, if_false, Option.bind_some, Option.bind, Option.toList, List.cons_append, List.nil_append, zite0, zite1, zite01, znn, ite_not, true_or, or_true, true_and, and_true, zn10, zn00, zk_1 hL, zr_1_0 hL, zk_2 hL, hb, hc, zb_X_both_4, zb_X_both_11, eq_false hab, e2, eq_true (show (9 : Int) < (S.1.2.1 : Int) by omega), h1, zb_X_both_44]
        · rw [if_neg h9]
          have hn9 : ¬ (9 : Int) < (S.1.2.1 : Int) := by omega
          obtain ⟨p, rfl⟩ := Int.eq_ofNat_of_zero_le ha.1
          obtain ⟨q, rfl⟩ := Int.eq_ofNat_of_zero_le hbb.1
          rw [Int.toNat_natCast, Int.toNat_natCast]
          obtain ⟨I1, a1, a2, a3⟩ := zq_follow (X := X) (d := d) (sharp := -1) hL (Or.inl rfl) (show p < 4 by omega) ho.1 hr.1
          have hr1 := zRX_scr ho (fun a ha => a2 a (by omega)) hr
          obtain ⟨I2, b1, b2, b3⟩ := zq_follow (X := X) (d := d) (sharp := -1) hL (Or.inr rfl) (show q < 4 by omega) ho.1 hr1.1
          have hr2 := zRX_scr ho (fun a ha => b2 a (by omega)) hr1
          have e22 : I2 2 2 = (S.1.2.1 : Int) := hr2.1.2.2.1
          have hu := zu2_ok ho.1 (show p < 4 by omega) (show q < 4 by omega) (by omega)
          have hl := zq_likW_l (X := X) (C := zcal X zP (d + 4)) (I := I2) hL (N := S.1.2.1) (w1 := zW S.1 p (-1) S.1.2.1) (w2 := zW S.1 q (-1) S.1.2.1) (u := zu2 S.1 p q) (by omega) (fun k hk => by rw [b2 _ (by omega)]; exact a3 _ (Nat.le_refl _) k hk) (fun k hk => b3 _ (Nat.le_refl _) k hk) (fun _ => rfl) hu 6 0 (-1) 0 none (by omega)
          rw [zbl_both (fun k => (hu k).1)] at hl
          have hq : zcal X zP (d + 5) 40 [.inr (.inr (.inl 83)), .inr (.inr (.inl 100)), .inl (S.1.2.1 : Int)] (I2, L) = some (some (.inl (if zu2 S.1 p q (zhv (zu2 S.1 p q) 5 1 0) = 0 then -1 else ((zhv (zu2 S.1 p q) 5 1 0 : Nat) : Int))), (I2, L)) := by
            refine ((zcal_go zp_Sight_likeliestWith rfl).trans zb_Sight_likeliestWith_0).trans ?_
            exact hl
          by_cases hz : zu2 S.1 p q (zhv (zu2 S.1 p q) 5 1 0) = 0
          · rw [if_pos hz] at hq ⊢
            obtain ⟨J, h1, h2, h3⟩ := zX_tellc (X := X) (d := d + 4) (k := 3) (c := -1000004) hL ho (by omega) (by omega) hr2
            refine ⟨J, ?_, h2, fun a ha => (h3 a ha).trans ((b2 a (by omega)).trans (a2 a (by omega)))⟩
            refine ((zcal_go zp_X_both rfl).trans zb_X_both_0).trans ?_
            simp only [if_true, if_false, Option.bind_some, Option.bind, Option.toList, List.cons_append, List.nil_append, zite0, zite1, zite01, znn, ite_not, true_or, or_true, true_and, and_true, zn10, zn00, zk_1 hL, zr_1_0 hL, zk_2 hL, hb, hc, zb_X_both_4, zb_X_both_11, eq_false hab, e2, eq_false hn9, zr_1_4 hL, zk_83 hL, a1, zb_X_both_58, zr_1_5 hL, zk_100 hL, b1, zb_X_both_71, e22, hq, zb_X_both_89, znm1, h1, zb_X_both_100]
          · rw [if_neg hz] at hq ⊢
            have hn0 : ¬ ((zhv (zu2 S.1 p q) 5 1 0 : Nat) : Int) < 0 := by omega
            refine ⟨I2, ?_, hr2, fun a ha => (b2 a (by omega)).trans (a2 a (by omega))⟩
            refine ((zcal_go zp_X_both rfl).trans zb_X_both_0).trans ?_
            simp only [if_true, if_false, Option.bind_some, Option.bind, Option.toList, List.cons_append, List.nil_append, zite0, zite1, zite01, znn, ite_not, true_or, or_true, true_and, and_true, zn10, zn00, zk_1 hL, zr_1_0 hL, zk_2 hL, hb, hc, zb_X_both_4, zb_X_both_11, eq_false hab, e2, eq_false hn9, zr_1_4 hL, zk_83 hL, a1, zb_X_both_58, zr_1_5 hL, zk_100 hL, b1, zb_X_both_71, e22, hq, zb_X_both_89, eq_false hn0]
    · rw [if_neg hbb] at hc
      rw [if_neg (fun h => hbb h.2.1)]
      refine ⟨J, ?_, h2, h3⟩
      refine ((zcal_go zp_X_both rfl).trans zb_X_both_0).trans ?_
      simp only [if_true, if_false, Option.bind_some, Option.bind, Option.toList, List.cons_append, List.nil_append, zite0, zite1, zite01, znn, ite_not, true_or, or_true, true_and, and_true, zn10, zn00, zk_1 hL, zr_1_0 hL, zk_2 hL, hb, hc, zb_X_both_4, zb_X_both_11, h1, zb_X_both_25]
  · rw [if_neg ha] at hb
    rw [if_neg (fun h => ha h.1)]
    refine ⟨J, ?_, h2, h3⟩
    refine ((zcal_go zp_X_both rfl).trans zb_X_both_0).trans ?_
    simp only [if_true, if_false, Option.bind_some, Option.bind, Option.toList, List.cons_append, List.nil_append, zite0, zite1, zite01, znn, ite_not, true_or, or_true, true_and, and_true, zn10, zn00, zk_1 hL, zr_1_0 hL, zk_2 hL, hb, zb_X_both_4, h1, zb_X_both_25]
theorem zm_both_1 (hL : zLay L) {a b : Int} : ∀ (m i : Nat) (I : Nat → Nat → Int), i + m = 6 → ∃ I', zgo X C zc_M_both 57 [some (.inr (.inr (.inl 135))), some (.inl a), some (.inl b), some (.inl (i : Int))] [] (I, L) = zgo X C zc_M_both 57 [some (.inr (.inr (.inl 135))), some (.inl a), some (.inl b), some (.inl ((6 : Nat) : Int))] [] (I', L) ∧ (∀ c j, (c ≠ 143 ∨ j < i) → I' c j = I c j) ∧ ∀ q, i ≤ q → q < 6 → I' 143 q = I 141 q := by
  intro m
  induction m with
  | zero =>
    intro i I hi
    have hi : i = 6 := hi
    rw [hi]
    exact ⟨I, rfl, fun _ _ _ => rfl, fun q h1 h2 => absurd h1 (by omega)⟩
  | succ m ih =>
    intro i I hi
    obtain ⟨I', q1, q2, q3⟩ := ih (i + 1) (zwI I 143 i (I 141 i)) (by omega)
    refine ⟨I', Eq.trans ?_ q1, fun c j h => (q2 c j (by omega)).trans (by rw [zwI_if, if_neg (by omega)]), fun q h1 h2 => ?_⟩
    · rw [zb_M_both_57, if_pos (by omega)]
      simp only [if_true, if_false, Option.bind_some, Option.bind, Option.toList, List.cons_append, List.nil_append, zite0, zite1, zite01, znn, ite_not, true_or, or_true, true_and, and_true, zn10, zn00, zk_135 hL, zr_135_0 hL, z6_0 hL, z6_1 hL, z6_2 hL, z6_3 hL, z6_4 hL, zr_135_7 hL, zr_135_9 hL, zc141 hL (show i < 6 by omega), zc143 hL (show i < 6 by omega), Int.toNat_natCast, zw_I]
      rw [zw32n (by omega)]
    · by_cases he : q = i
      · rw [he, q2 _ _ (by omega), zwI_eq]
      · rw [q3 q (by omega) h2, zwI_ne (by omega)]
theorem zm_both_2 (hL : zLay L) {a b : Int} {u : Nat → Int} (hu : ∀ q, 0 ≤ u q ∧ u q ≤ 1000000000000000000) : ∀ (m i : Nat) (I : Nat → Nat → Int), i + m = 6 → (∀ q, i ≤ q → q < 6 → I 141 q * I 143 q = u q) → ∃ I', zgo X C zc_M_both 95 [some (.inr (.inr (.inl 135))), some (.inl a), some (.inl b), some (.inl (i : Int))] [] (I, L) = zgo X C zc_M_both 95 [some (.inr (.inr (.inl 135))), some (.inl a), some (.inl b), some (.inl ((6 : Nat) : Int))] [] (I', L) ∧ (∀ c j, (c ≠ 141 ∨ j < i) → I' c j = I c j) ∧ ∀ q, i ≤ q → q < 6 → I' 141 q = u q := by
  intro m
  induction m with
  | zero =>
    intro i I hi _
    have hi : i = 6 := hi
    rw [hi]
    exact ⟨I, rfl, fun _ _ _ => rfl, fun q h1 h2 => absurd h1 (by omega)⟩
  | succ m ih =>
    intro i I hi hI
    obtain ⟨I', q1, q2, q3⟩ := ih (i + 1) (zwI I 141 i (u i)) (by omega) (fun q h1 h2 => by rw [zwI_nej (by omega), zwI_ne (by omega)]; exact hI q (by omega) h2)
    have f1 : ∀ c j, (c ≠ 141 ∨ j < i) → I' c j = I c j := fun c j h => (q2 c j (by omega)).trans (by rw [zwI_if, if_neg (by omega)])
    have f2 : ∀ q, i ≤ q → q < 6 → I' 141 q = u q := by
      intro q h1 h2
      by_cases he : q = i
      · rw [he, q2 _ _ (by omega), zwI_eq]
      · exact q3 q (by omega) h2
    refine ⟨I', Eq.trans ?_ q1, f1, f2⟩
    have hii : (i : Int) < 6 := by omega
    have hi6 : i < 6 := by omega
    have him : i < 1000000 := by omega
    have hI := hI i (Nat.le_refl i) hi6
    rw [zb_M_both_95, if_pos hii]
    simp only [if_true, if_false, Option.bind_some, Option.bind, Option.toList, List.cons_append, List.nil_append, zite0, zite1, zite01, znn, ite_not, true_or, or_true, true_and, and_true, zn10, zn00, zk_135 hL, zr_135_0 hL, z6_0 hL, z6_1 hL, z6_2 hL, z6_3 hL, z6_4 hL, zr_135_7 hL, zr_135_9 hL, zc141 hL hi6, zc143 hL hi6, Int.toNat_natCast, hI, zw64 (hu i).1 (hu i).2, zw_I]
    rw [zw32n him]
theorem zm_both (hL : zLay L) (ho : zSOK n S) {a b : Int} : zHM X L (d + 5) 176 [.inl a, .inl b] S (zr_both S a b) := by
  intro I hr
  have hb := zq_M_isFour (X := X) (d := d + 2) (σ := (I, L)) (v := a)
  have hc := zq_M_isFour (X := X) (d := d + 2) (σ := (I, L)) (v := b)
  have e2 : I 136 1 = (S.1.2.1 : Int) := hr.1.2.1
  have h06 := ho.1.1
  obtain ⟨J, h1, h2, h3⟩ := zM_findsc (X := X) (d := d + 3) (k := 0) (c := -1000001) (k' := 0) hL ho (by omega) (by omega) (by omega) hr
  unfold zr_both
  by_cases ha : 0 ≤ a ∧ a ≤ 3
  · rw [if_pos ha] at hb
    by_cases hbb : 0 ≤ b ∧ b ≤ 3
    · rw [if_pos hbb] at hc
      by_cases hab : a = b
      · rw [if_neg (fun h => h.2.2 hab)]
        refine ⟨J, ?_, h2, h3⟩
        refine ((zcal_go zp_M_both rfl).trans zb_M_both_0).trans ?_
        simp only [if_true, if_false, Option.bind_some, Option.bind, Option.toList, List.cons_append, List.nil_append, zite0, zite1, zite01, znn, ite_not, true_or, or_true, true_and, and_true, zn10, zn00, zk_135 hL, zr_135_0 hL, z6_0 hL, z6_1 hL, z6_2 hL, z6_3 hL, z6_4 hL, hb, hc, zb_M_both_4, zb_M_both_11, eq_true hab, h1, zb_M_both_24]
      · rw [if_pos ⟨ha, hbb, hab⟩]
        by_cases h9 : 9 < S.1.2.1
        · rw [if_pos h9]
          obtain ⟨J, h1, h2, h3⟩ := zM_findsc (X := X) (d := d + 3) (k := 6) (c := -1000007) (k' := 6) hL ho (by omega) (by omega) (by omega) hr
          refine ⟨J, ?_, h2, h3⟩
          refine ((zcal_go zp_M_both rfl).trans zb_M_both_0).trans ?_
          simp only [if_true, if_false, Option.bind_some, Option.bind, Option.toList, List.cons_append, List.nil_append, zite0, zite1, zite01, znn, ite_not, true_or, or_true, true_and, and_true, zn10, zn00, zk_135 hL, zr_135_0 hL, z6_0 hL, z6_1 hL, z6_2 hL, z6_3 hL, z6_4 hL, hb, hc, zb_M_both_4, zb_M_both_11, eq_false hab, e2, eq_true (show (9 : Int) < (S.1.2.1 : Int) by omega), h1, zb_M_both_42]
        · rw [if_neg h9]
          have hn9 : ¬ (9 : Int) < (S.1.2.1 : Int) := by omega
          obtain ⟨p, rfl⟩ := Int.eq_ofNat_of_zero_le ha.1
          obtain ⟨q, rfl⟩ := Int.eq_ofNat_of_zero_le hbb.1
          rw [Int.toNat_natCast, Int.toNat_natCast]
          have hu := zu2_ok ho.1 (show p < 4 by omega) (show q < 4 by omega) (by omega)
          have huz : ∀ k : Nat, S.1.1 0 ≤ (k : Int) → zu2 S.1 p q k = 0 := by
            intro k hk
            unfold zu2
            rw [zW_hi ho.1 (show p < 4 by omega) hk]
            exact Int.zero_mul _
          obtain ⟨I1, a1, a2, a3⟩ := zq_M_watches (X := X) (d := d) (sharp := -1) hL (show p < 4 by omega) ho.1 hr.1 (Nat.le_refl S.1.2.1)
          obtain ⟨I2, b1, b2, b3⟩ := zm_both_1 (X := X) (C := zcal X zP (d + 4)) (a := (p : Int)) (b := (q : Int)) hL 6 0 I1 (by omega)
          have hr2 : zRM I2 S := zRM_scr (fun a h1 h2 => (funext fun j => b2 a j (by omega)).trans (a2 a (by omega) (by omega))) hr
          obtain ⟨I3, c1, c2, c3⟩ := zq_M_watches (X := X) (d := d) (sharp := -1) hL (show q < 4 by omega) ho.1 hr2.1 (Nat.le_refl S.1.2.1)
          have e23 : I2 136 1 = (S.1.2.1 : Int) := hr2.1.2.1
          have hprod : ∀ k, 0 ≤ k → k < 6 → I3 141 k * I3 143 k = zu2 S.1 p q k := by
            intro k _ hk
            rw [c3 k hk, c2 143 (by omega) (by omega), b3 k (by omega) hk, a3 k hk]
            exact Int.mul_comm _ _
          obtain ⟨I4, d1, d2, d3⟩ := zm_both_2 (X := X) (C := zcal X zP (d + 4)) (a := (p : Int)) (b := (q : Int)) hL hu 6 0 I3 (by omega) hprod
          have fr : ∀ a, a ≠ 141 → a ≠ 142 → a ≠ 143 → I4 a = I a := fun a h1 h2 h3 => (funext fun j => d2 a j (by omega)).trans ((c2 a h1 h2).trans ((funext fun j => b2 a j (by omega)).trans (a2 a h1 h2)))
          have hr4 : zRM I4 S := zRM_scr (fun a h1 h2 => fr a (by omega) (by omega) (by omega)) hr
          have e04 : I4 136 0 = S.1.1 0 := hr4.1.1 0 (by omega)
          have hh := zq_M_heaviest (X := X) (d := d + 3) (I := I4) hL h06 e04 (fun k hk => d3 k (by omega) hk) (fun k => (hu k).1) huz
          have hlt := zhv_lt (w := zu2 S.1 p q) (N := 6) 5 1 0 (by omega) (by omega)
          have hv := d3 _ (Nat.zero_le _) hlt
          have key : zcal X zP (d + 5) 176 [.inr (.inr (.inl 135)), .inl (p : Int), .inl (q : Int)] (I, L) = zgo X (zcal X zP (d + 4)) zc_M_both 126 [some (.inr (.inr (.inl 135))), some (.inl (p : Int)), some (.inl (q : Int)), some (.inl ((6 : Nat) : Int))] [.inl ((zhv (zu2 S.1 p q) 5 1 0 : Nat) : Int)] (I4, L) := by
            have k1 : zcal X zP (d + 5) 176 [.inr (.inr (.inl 135)), .inl (p : Int), .inl (q : Int)] (I, L) = zgo X (zcal X zP (d + 4)) zc_M_both 57 [some (.inr (.inr (.inl 135))), some (.inl (p : Int)), some (.inl (q : Int)), some (.inl 0)] [] (I1, L) := by
              refine ((zcal_go zp_M_both rfl).trans zb_M_both_0).trans ?_
              simp only [if_true, if_false, Option.bind_some, Option.bind, Option.toList, List.cons_append, List.nil_append, zite0, zite1, zite01, znn, ite_not, true_or, or_true, true_and, and_true, zn10, zn00, zk_135 hL, zr_135_0 hL, z6_0 hL, z6_1 hL, z6_2 hL, z6_3 hL, z6_4 hL, hb, hc, zb_M_both_4, zb_M_both_11, eq_false hab, e2, eq_false hn9, a1, zb_M_both_55]
            have k2 : zgo X (zcal X zP (d + 4)) zc_M_both 57 [some (.inr (.inr (.inl 135))), some (.inl (p : Int)), some (.inl (q : Int)), some (.inl ((6 : Nat) : Int))] [] (I2, L) = zgo X (zcal X zP (d + 4)) zc_M_both 95 [some (.inr (.inr (.inl 135))), some (.inl (p : Int)), some (.inl (q : Int)), some (.inl 0)] [] (I3, L) := by
              rw [zb_M_both_57, if_neg (by decide)]
              simp only [if_true, if_false, Option.bind_some, Option.bind, Option.toList, List.cons_append, List.nil_append, zite0, zite1, zite01, znn, ite_not, true_or, or_true, true_and, and_true, zn10, zn00, zk_135 hL, zr_135_0 hL, z6_0 hL, z6_1 hL, z6_2 hL, z6_3 hL, z6_4 hL, e23, c1, zb_M_both_93]
            have k3 : zgo X (zcal X zP (d + 4)) zc_M_both 95 [some (.inr (.inr (.inl 135))), some (.inl (p : Int)), some (.inl (q : Int)), some (.inl ((6 : Nat) : Int))] [] (I4, L) = zgo X (zcal X zP (d + 4)) zc_M_both 126 [some (.inr (.inr (.inl 135))), some (.inl (p : Int)), some (.inl (q : Int)), some (.inl ((6 : Nat) : Int))] [.inl ((zhv (zu2 S.1 p q) 5 1 0 : Nat) : Int)] (I4, L) := by
              rw [zb_M_both_95, if_neg (by decide)]
              simp only [if_true, if_false, Option.bind_some, Option.bind, Option.toList, List.cons_append, List.nil_append, zite0, zite1, zite01, znn, ite_not, true_or, or_true, true_and, and_true, zn10, zn00, zk_135 hL, zr_135_0 hL, z6_0 hL, z6_1 hL, z6_2 hL, z6_3 hL, z6_4 hL, hh]
            exact k1.trans (b1.trans (k2.trans (d1.trans k3)))
          by_cases hz : zu2 S.1 p q (zhv (zu2 S.1 p q) 5 1 0) = 0
          · rw [if_pos hz]
            obtain ⟨J, h1, h2, h3⟩ := zM_findsc (X := X) (d := d + 3) (k := 3) (c := -1000004) (k' := 3) hL ho (by omega) (by omega) (by omega) hr4
            refine ⟨J, key.trans ?_, h2, fun a ha => (h3 a ha).trans (fr a (by omega) (by omega) (by omega))⟩
            rw [zb_M_both_126]
            simp only [if_true, if_false, Option.bind_some, Option.bind, Option.toList, List.cons_append, List.nil_append, zite0, zite1, zite01, znn, ite_not, true_or, or_true, true_and, and_true, zn10, zn00, zk_135 hL, zr_135_0 hL, z6_0 hL, z6_1 hL, z6_2 hL, z6_3 hL, z6_4 hL, zr_135_7 hL, zc141 hL hlt, Int.toNat_natCast, hv, zcmp_eq0, eq_true hz, h1, zb_M_both_143]
          · rw [if_neg hz]
            refine ⟨I4, key.trans ?_, hr4, fun a ha => fr a (by omega) (by omega) (by omega)⟩
            rw [zb_M_both_126]
            simp only [if_true, if_false, Option.bind_some, Option.bind, Option.toList, List.cons_append, List.nil_append, zite0, zite1, zite01, znn, ite_not, true_or, or_true, true_and, and_true, zn10, zn00, zk_135 hL, zr_135_0 hL, z6_0 hL, z6_1 hL, z6_2 hL, z6_3 hL, z6_4 hL, zr_135_7 hL, zc141 hL hlt, Int.toNat_natCast, hv, zcmp_eq0, eq_false hz]
    · rw [if_neg hbb] at hc
      rw [if_neg (fun h => hbb h.2.1)]
      refine ⟨J, ?_, h2, h3⟩
      refine ((zcal_go zp_M_both rfl).trans zb_M_both_0).trans ?_
      simp only [if_true, if_false, Option.bind_some, Option.bind, Option.toList, List.cons_append, List.nil_append, zite0, zite1, zite01, znn, ite_not, true_or, or_true, true_and, and_true, zn10, zn00, zk_135 hL, zr_135_0 hL, z6_0 hL, z6_1 hL, z6_2 hL, z6_3 hL, z6_4 hL, hb, hc, zb_M_both_4, zb_M_both_11, h1, zb_M_both_24]
  · rw [if_neg ha] at hb
    rw [if_neg (fun h => ha h.1)]
    refine ⟨J, ?_, h2, h3⟩
    refine ((zcal_go zp_M_both rfl).trans zb_M_both_0).trans ?_
    simp only [if_true, if_false, Option.bind_some, Option.bind, Option.toList, List.cons_append, List.nil_append, zite0, zite1, zite01, znn, ite_not, true_or, or_true, true_and, and_true, zn10, zn00, zk_135 hL, zr_135_0 hL, z6_0 hL, z6_1 hL, z6_2 hL, z6_3 hL, z6_4 hL, hb, zb_M_both_4, h1, zb_M_both_24]
theorem zo_both (ho : zSOK n S) (hn : n < 100000) {a b : Int} : zSOK (n + 1) (zr_both S a b).2 := by
  unfold zr_both
  exact zif2 (fun _ => zif2 (fun _ => zSOK_f ho (by omega) hn) (fun _ => zif2 (fun _ => zSOK_f ho (by omega) hn) (fun _ => zSOK_up ho hn))) (fun _ => zSOK_f ho (by omega) hn)
theorem zA14 (hL : zLay L) : zA_14 X L := fun n a1 a2 _ _ S ho hn => zCI (zr_both S a1 a2) (by unfold zr_both; repeat' (first | exact ⟨_, rfl⟩ | refine zif1 ?_ ?_)) (zx_both (d := 34) hL ho) (zm_both (d := 35) hL ho) (zo_both ho hn)
end
