/-! CONTRACTS OF CALLS: load, judge. -/
theorem zi40 {s i : Nat} (hs : s < 4) (hi : i < 200) : w32 ((w32 (40 * (s : Int))) + (i : Int)) = ((40 * s + i : Nat) : Int) := by unfold w32; omega
theorem zi53 {i : Nat} (hi : i < 200) : w32 (5 + (w32 (3 * (i : Int)))) = ((5 + 3 * i : Nat) : Int) := by unfold w32; omega
theorem zi11 {i : Nat} (hi : i < 200) : w32 (1 + (i : Int)) = 1 + (i : Int) := by unfold w32; omega
section
variable {X : zX} {C : zC} {d n : Nat} {L : zLt} {S : zSt}
/-- how far the numbers are kinds: so many more, from the i-th on -/
def zld (f : Nat → Int) : Nat → Nat → Nat
  | 0, i => i
  | m + 1, i => if 0 ≤ f i ∧ f i ≤ 6 then zld f m (i + 1) else i
theorem zld_le {f : Nat → Int} : ∀ m i, i ≤ zld f m i ∧ zld f m i ≤ i + m := by
  intro m
  induction m with
  | zero => intro i; exact ⟨Nat.le_refl _, Nat.le_refl _⟩
  | succ m ih =>
    intro i
    show i ≤ (if 0 ≤ f i ∧ f i ≤ 6 then zld f m (i + 1) else i) ∧ (if 0 ≤ f i ∧ f i ≤ 6 then zld f m (i + 1) else i) ≤ i + (m + 1)
    have := ih (i + 1)
    split <;> omega
theorem zld_ok {f : Nat → Int} : ∀ m i k, i ≤ k → k < zld f m i → 0 ≤ f k ∧ f k ≤ 6 := by
  intro m
  induction m with
  | zero => intro i k h1 h2; exact absurd h2 (by show ¬ k < i; omega)
  | succ m ih =>
    intro i k h1 h2
    have h2 : k < (if 0 ≤ f i ∧ f i ≤ 6 then zld f m (i + 1) else i) := h2
    split at h2
    · next h =>
      by_cases e : k = i
      · rw [e]; exact h
      · exact ih (i + 1) k (by omega) h2
    · omega
def zTload (T : zTb) (f : Nat → Int) (c : Nat) : zTb := (T.1, (T.2.1, fun j => if j < c then (f j, (T.2.2 j).2) else T.2.2 j))
def zr_load (S : zSt) (s : Int) : zV × zSt := if 0 ≤ s ∧ s ≤ 3 then (if (S.2.2.2.2.1 s.toNat).1 = 0 then (.inl (-1000006), zSf S 5) else (.inl ((zld (S.2.2.2.2.1 s.toNat).2.2 (Nat.min (S.2.2.2.2.1 s.toNat).2.1 S.1.2.1) 0 : Nat) : Int), zS1 S (zTload S.1 (S.2.2.2.2.1 s.toNat).2.2 (zld (S.2.2.2.2.1 s.toNat).2.2 (Nat.min (S.2.2.2.2.1 s.toNat).2.1 S.1.2.1) 0)))) else (.inl (-1000001), zSf S 0)
theorem zx_load_l (hL : zLay L) {s z N : Nat} {w : Int} {f : Nat → Int} (hs : s < 4) (hz : z ≤ 40) (hN : N ≤ 14) : ∀ (m i : Nat) (I : Nat → Nat → Int), i + m = Nat.min z N → I (127 + 2 * s) 1 = (z : Int) → I 2 2 = (N : Int) → (∀ j, j < z → I (128 + 2 * s) j = f j) → ∃ I', zgo X (zcal X zP (d + 2)) zc_X_load 38 [some (.inr (.inr (.inl 1))), some (.inl w), some (.inr (.inr (.inl (127 + 2 * s)))), some (.inl (i : Int))] [] (I, L) = some (some (.inl ((zld f m i : Nat) : Int)), (I', L)) ∧ (∀ a j, (a < 7 + i ∨ 21 ≤ a ∨ j ≠ 0) → I' a j = I a j) ∧ ∀ k, i ≤ k → k < 14 → I' (7 + k) 0 = if k < zld f m i then f k else I (7 + k) 0 := by
  obtain ⟨l1, l2, l3, l4⟩ := zsh hL hs
  intro m
  induction m with
  | zero =>
    intro i I hi h1 h2 h3
    have hmin : i = Nat.min z N := hi
    refine ⟨I, ?_, fun a j _ => rfl, fun k e1 e2 => by rw [if_neg (by show ¬ k < i; omega)]⟩
    rw [zb_X_load_38]
    simp only [if_true, if_false, Option.bind_some, Option.bind, Option.toList, List.cons_append, List.nil_append, zite0, zite1, zite01, znn, ite_not, true_or, or_true, true_and, and_true, zn10, zn00, zk_1 hL, zr_1_0 hL, zk_2 hL, l2, h1, h2]
    by_cases c : i < z
    · have : ¬ i < N := by
        intro c2
        have := Nat.lt_min.mpr ⟨c, c2⟩
        have hmin : i = min z N := hmin
        omega
      rw [if_pos (by omega), if_neg (by omega)]
      rfl
    · rw [if_neg (by omega)]
      rfl
  | succ m ih =>
    intro i I hi h1 h2 h3
    have hz1 : i < z := by have : Nat.min z N ≤ z := Nat.min_le_left z N; omega
    have hz2 : i < N := by have : Nat.min z N ≤ N := Nat.min_le_right z N; omega
    obtain ⟨p3, p4⟩ := zp14 hL (show i < 14 by omega)
    have hb := zq_X_isKind (X := X) (d := d) (σ := (I, L)) (v := f i)
    have e : zld f (m + 1) i = if 0 ≤ f i ∧ f i ≤ 6 then zld f m (i + 1) else i := rfl
    by_cases hk : 0 ≤ f i ∧ f i ≤ 6
    · rw [if_pos hk] at hb e
      obtain ⟨I', q1, q2, q3⟩ := ih (i + 1) (zwI I (7 + i) 0 (f i)) (by omega) ((zwI_ne (by omega)).trans h1) ((zwI_ne (by omega)).trans h2) (fun j hj => (zwI_ne (by omega)).trans (h3 j hj))
      have hle := (zld_le (f := f) m (i + 1)).1
      rw [zb_X_load_38, e]
      refine ⟨I', ?_, fun a j h => (q2 a j (by omega)).trans ?_, fun k e1 e2 => ?_⟩
      · simp only [if_true, if_false, Option.bind_some, Option.bind, Option.toList, List.cons_append, List.nil_append, zite0, zite1, zite01, znn, ite_not, true_or, or_true, true_and, and_true, zn10, zn00, zk_1 hL, zr_1_0 hL, zk_2 hL, l2, l3, h1, h2, eq_true (show (i : Int) < (z : Int) by omega), eq_true (show (i : Int) < (N : Int) by omega), zcsh hL hs (show i < 40 by omega), Int.toNat_natCast, h3 i hz1, hb, zb_X_load_4, zb_X_load_13, zb_X_load_35, zb_X_load_66, zr_2_5 hL, zc3 hL (show i < 14 by omega), p3, p4, zw_I]
        rw [zw32n (by omega)]
        exact q1
      · rw [zwI_if, if_neg (by omega)]
      · by_cases he : k = i
        · rw [he, q2 _ _ (by omega), zwI_eq, if_pos (by omega)]
        · rw [q3 k (by omega) e2, zwI_ne (by omega)]
    · rw [if_neg hk] at hb e
      refine ⟨I, ?_, fun a j _ => rfl, fun k e1 e2 => by rw [e, if_neg (by omega)]⟩
      rw [zb_X_load_38, e]
      simp only [if_true, if_false, Option.bind_some, Option.bind, Option.toList, List.cons_append, List.nil_append, zite0, zite1, zite01, znn, ite_not, true_or, or_true, true_and, and_true, zn10, zn00, zk_1 hL, zr_1_0 hL, zk_2 hL, l2, l3, h1, h2, eq_true (show (i : Int) < (z : Int) by omega), eq_true (show (i : Int) < (N : Int) by omega), zcsh hL hs (show i < 40 by omega), Int.toNat_natCast, h3 i hz1, hb, zb_X_load_4, zb_X_load_13, zb_X_load_35, zb_X_load_66]
theorem zx_load (hL : zLay L) (ho : zSOK n S) {s : Int} : zHX X L (d + 3) 113 [.inl s] S (zr_load S s) := by
  intro I hr
  have h14 := ho.1.2.2.2.2.1
  have hb := zq_X_isSheet (X := X) (d := d) (σ := (I, L)) (v := s)
  unfold zr_load
  by_cases hs : 0 ≤ s ∧ s ≤ 3
  · rw [if_pos hs] at hb ⊢
    obtain ⟨k, rfl⟩ := Int.eq_ofNat_of_zero_le hs.1
    rw [Int.toNat_natCast]
    obtain ⟨l1, l2, l3, l4⟩ := zsh hL (show k < 4 by omega)
    obtain ⟨r1, r2, r3⟩ := hr.2.2.2.2.2.1 k (by omega)
    have h40 := (ho.2.2.2.2.2.1 k (by omega)).2.1
    by_cases h0 : (S.2.2.2.2.1 k).1 = 0
    · rw [if_pos h0]
      obtain ⟨I', h1, h2, h3⟩ := zX_tellc (X := X) (d := d + 1) (k := 5) (c := -1000006) hL ho (by omega) (by omega) hr
      refine ⟨I', ?_, h2, h3⟩
      refine ((zcal_go zp_X_load rfl).trans zb_X_load_0).trans ?_
      simp only [if_true, if_false, Option.bind_some, Option.bind, Option.toList, List.cons_append, List.nil_append, zite0, zite1, zite01, znn, ite_not, true_or, or_true, true_and, and_true, zn10, zn00, zk_1 hL, zr_1_0 hL, zk_2 hL, hb, zb_X_load_4, zb_X_load_35, zr_1_9 hL, zc125 hL (show k < 4 by omega), Int.toNat_natCast, l1, l2, r1, eq_true h0, h1]
    · rw [if_neg h0]
      obtain ⟨I', q1, q2, q3⟩ := zx_load_l (X := X) (d := d) hL (w := (k : Int)) (f := (S.2.2.2.2.1 k).2.2) (show k < 4 by omega) h40 h14 (Nat.min (S.2.2.2.2.1 k).2.1 S.1.2.1) 0 I (by omega) r2 hr.1.2.2.1 r3
      obtain ⟨a1, a2, a3, a4, a5, a6, a7, a8, a9⟩ := hr.1
      refine ⟨I', ?_, zRX_T ho ⟨q2 _ _ (by omega), fun a _ _ => funext fun j => q2 _ _ (by omega), q2 _ _ (by omega), funext fun j => q2 _ _ (by omega), funext fun j => q2 _ _ (by omega), fun a _ _ => funext fun j => q2 _ _ (by omega)⟩ ⟨(q2 _ _ (by omega)).trans a1, (q2 _ _ (by omega)).trans a2, (q2 _ _ (by omega)).trans a3, (q2 _ _ (by omega)).trans a4, (q2 _ _ (by omega)).trans a5, fun i hi => ?_, fun e he => ?_, fun p q hp hq => ?_, fun j hj => ?_⟩ hr, fun a ha => funext fun j => q2 _ _ (by omega)⟩
      · refine ((zcal_go zp_X_load rfl).trans zb_X_load_0).trans ?_
        simp only [if_true, if_false, Option.bind_some, Option.bind, Option.toList, List.cons_append, List.nil_append, zite0, zite1, zite01, znn, ite_not, true_or, or_true, true_and, and_true, zn10, zn00, zk_1 hL, zr_1_0 hL, zk_2 hL, hb, zb_X_load_4, zr_1_9 hL, zc125 hL (show k < 4 by omega), Int.toNat_natCast, l1, l2, r1, eq_false h0]
        exact q1
      · have hi : i < S.1.2.1 := hi
        obtain ⟨b1, b2, b3⟩ := a6 i hi
        have hq := q3 i (by omega) (by omega)
        show I' (7 + i) 0 = (if i < _ then _ else _ : Int × (Int × Int)).1 ∧ I' (7 + i) 1 = (if i < _ then _ else _ : Int × (Int × Int)).2.1 ∧ I' (7 + i) 2 = (if i < _ then _ else _ : Int × (Int × Int)).2.2
        rw [q2 (7 + i) 1 (by omega), q2 (7 + i) 2 (by omega), hq]
        split
        · exact ⟨rfl, b2, b3⟩
        · exact ⟨b1, b2, b3⟩
      · rw [q2 _ _ (by omega), q2 _ _ (by omega)]; exact a7 e he
      · rw [q2 _ _ (by omega)]; exact a8 p q hp hq
      · rw [q2 _ _ (by omega)]; exact a9 j hj
  · rw [if_neg hs] at hb ⊢
    obtain ⟨I', h1, h2, h3⟩ := zX_tellc (X := X) (d := d + 1) (k := 0) (c := -1000001) hL ho (by omega) (by omega) hr
    refine ⟨I', ?_, h2, h3⟩
    refine ((zcal_go zp_X_load rfl).trans zb_X_load_0).trans ?_
    simp only [if_true, if_false, Option.bind_some, Option.bind, Option.toList, List.cons_append, List.nil_append, zite0, zite1, zite01, znn, ite_not, true_or, or_true, true_and, and_true, zn10, zn00, zk_1 hL, zr_1_0 hL, zk_2 hL, hb, zb_X_load_4, zb_X_load_13, h1]
theorem zm_load_l (hL : zLay L) {s z N : Nat} {w : Int} {f : Nat → Int} (hs : s < 4) (hz : z ≤ 40) (hN : N ≤ 14) : ∀ (m i : Nat) (I : Nat → Nat → Int), i + m = Nat.min z N → I 148 s = (z : Int) → I 136 1 = (N : Int) → (∀ j, j < z → I 149 (40 * s + j) = f j) → ∃ I', zgo X (zcal X zP (d + 2)) zc_M_load 18 [some (.inr (.inr (.inl 135))), some (.inl (s : Int)), some (.inl w), some (.inl (i : Int))] [] (I, L) = some (some (.inl ((zld f m i : Nat) : Int)), (I', L)) ∧ (∀ a j, (a ≠ 136 ∨ j < 5 + 3 * i ∨ 47 ≤ j ∨ j % 3 ≠ 2) → I' a j = I a j) ∧ ∀ k, i ≤ k → k < 14 → I' 136 (5 + 3 * k) = if k < zld f m i then f k else I 136 (5 + 3 * k) := by
  intro m
  induction m with
  | zero =>
    intro i I hi h1 h2 h3
    have hmin : i = Nat.min z N := hi
    refine ⟨I, ?_, fun a j _ => rfl, fun k e1 e2 => by rw [if_neg (by show ¬ k < i; omega)]⟩
    rw [zb_M_load_18]
    simp only [if_true, if_false, Option.bind_some, Option.bind, Option.toList, List.cons_append, List.nil_append, zite0, zite1, zite01, znn, ite_not, true_or, or_true, true_and, and_true, zn10, zn00, zk_135 hL, zr_135_0 hL, z6_0 hL, z6_1 hL, z6_2 hL, z6_3 hL, z6_4 hL, zr_135_28 hL, zc148 hL hs, Int.toNat_natCast, h1, h2]
    by_cases c : i < z
    · have : ¬ i < N := by
        intro c2
        have := Nat.lt_min.mpr ⟨c, c2⟩
        have hmin : i = min z N := hmin
        omega
      rw [if_pos (by omega), if_neg (by omega)]
      rfl
    · rw [if_neg (by omega)]
      rfl
  | succ m ih =>
    intro i I hi h1 h2 h3
    have hz1 : i < z := by have : Nat.min z N ≤ z := Nat.min_le_left z N; omega
    have hz2 : i < N := by have : Nat.min z N ≤ N := Nat.min_le_right z N; omega
    have hb := zq_M_in (X := X) (d := d + 1) (σ := (I, L)) (v := f i) (a := 0) (b := 6)
    have e : zld f (m + 1) i = if 0 ≤ f i ∧ f i ≤ 6 then zld f m (i + 1) else i := rfl
    by_cases hk : 0 ≤ f i ∧ f i ≤ 6
    · rw [if_pos hk] at hb e
      obtain ⟨I', q1, q2, q3⟩ := ih (i + 1) (zwI I 136 (5 + 3 * i) (f i)) (by omega) ((zwI_ne (by omega)).trans h1) ((zwI_nej (by omega)).trans h2) (fun j hj => (zwI_ne (by omega)).trans (h3 j hj))
      have hle := (zld_le (f := f) m (i + 1)).1
      rw [zb_M_load_18, e]
      refine ⟨I', ?_, fun a j h => (q2 a j (by omega)).trans ?_, fun k e1 e2 => ?_⟩
      · simp only [if_true, if_false, Option.bind_some, Option.bind, Option.toList, List.cons_append, List.nil_append, zite0, zite1, zite01, znn, ite_not, true_or, or_true, true_and, and_true, zn10, zn00, zk_135 hL, zr_135_0 hL, z6_0 hL, z6_1 hL, z6_2 hL, z6_3 hL, z6_4 hL, zr_135_28 hL, zr_135_29 hL, zc148 hL hs, h1, h2, eq_true (show (i : Int) < (z : Int) by omega), eq_true (show (i : Int) < (N : Int) by omega), zi40 hs (show i < 200 by omega), zc149 hL (show 40 * s + i < 160 by omega), Int.toNat_natCast, h3 i hz1, hb, zb_M_load_57, zi53 (show i < 200 by omega), zd136 hL (show 0 ≤ ((5 + 3 * i : Nat) : Int) ∧ ((5 + 3 * i : Nat) : Int) < 96 by omega), zw_I]
        rw [zw32n (by omega)]
        exact q1
      · rw [zwI_if, if_neg (by omega)]
      · by_cases he : k = i
        · rw [he, q2 _ _ (by omega), zwI_eq, if_pos (by omega)]
        · rw [q3 k (by omega) e2, zwI_nej (by omega)]
    · rw [if_neg hk] at hb e
      refine ⟨I, ?_, fun a j _ => rfl, fun k e1 e2 => by rw [e, if_neg (by omega)]⟩
      rw [zb_M_load_18, e]
      simp only [if_true, if_false, Option.bind_some, Option.bind, Option.toList, List.cons_append, List.nil_append, zite0, zite1, zite01, znn, ite_not, true_or, or_true, true_and, and_true, zn10, zn00, zk_135 hL, zr_135_0 hL, z6_0 hL, z6_1 hL, z6_2 hL, z6_3 hL, z6_4 hL, zr_135_28 hL, zr_135_29 hL, zc148 hL hs, h1, h2, eq_true (show (i : Int) < (z : Int) by omega), eq_true (show (i : Int) < (N : Int) by omega), zi40 hs (show i < 200 by omega), zc149 hL (show 40 * s + i < 160 by omega), Int.toNat_natCast, h3 i hz1, hb, zb_M_load_57]
theorem zm_load (hL : zLay L) (ho : zSOK n S) {s : Int} : zHM X L (d + 4) 237 [.inl s] S (zr_load S s) := by
  intro I hr
  have h14 := ho.1.2.2.2.2.1
  have hb := zq_M_whyNone (X := X) (d := d) hL hr (s := s)
  unfold zr_load
  by_cases hs : 0 ≤ s ∧ s ≤ 3
  · rw [if_pos hs] at hb ⊢
    obtain ⟨k, rfl⟩ := Int.eq_ofNat_of_zero_le hs.1
    rw [Int.toNat_natCast] at hb ⊢
    obtain ⟨r1, r2, r3⟩ := hr.2.2.2.2.2.1 k (by omega)
    have h40 := (ho.2.2.2.2.2.1 k (by omega)).2.1
    by_cases h0 : (S.2.2.2.2.1 k).1 = 0
    · rw [if_pos h0] at hb ⊢
      obtain ⟨I', h1, h2, h3⟩ := zM_findsc (X := X) (d := d + 2) (k := 5) (c := -1000006) (k' := 5) hL ho (by omega) (by omega) (by omega) hr
      refine ⟨I', ?_, h2, h3⟩
      refine ((zcal_go zp_M_load rfl).trans zb_M_load_0).trans ?_
      simp only [if_true, if_false, Option.bind_some, Option.bind, Option.toList, List.cons_append, List.nil_append, zite0, zite1, zite01, znn, ite_not, true_or, or_true, true_and, and_true, zn10, zn00, zk_135 hL, zr_135_0 hL, z6_0 hL, z6_1 hL, z6_2 hL, z6_3 hL, z6_4 hL, hb, zb_M_load_5, zb_M_load_15, zn50, h1]
    · rw [if_neg h0] at hb ⊢
      obtain ⟨I', q1, q2, q3⟩ := zm_load_l (X := X) (d := d + 1) hL (w := -1) (f := (S.2.2.2.2.1 k).2.2) (show k < 4 by omega) h40 h14 (Nat.min (S.2.2.2.2.1 k).2.1 S.1.2.1) 0 I (by omega) r2 hr.1.2.1 r3
      obtain ⟨a1, a2, a3⟩ := hr.1
      refine ⟨I', ?_, zRM_T ⟨q2 _ _ (by omega), q2 _ _ (by omega), funext fun j => q2 _ _ (by omega), funext fun j => q2 _ _ (by omega), funext fun j => q2 _ _ (by omega), funext fun j => q2 _ _ (by omega), funext fun j => q2 _ _ (by omega), funext fun j => q2 _ _ (by omega)⟩ ⟨fun j hj => (q2 _ _ (by omega)).trans (a1 j hj), (q2 _ _ (by omega)).trans a2, fun i hi => ?_⟩ hr, fun a ha => funext fun j => q2 _ _ (by omega)⟩
      · refine ((zcal_go zp_M_load rfl).trans zb_M_load_0).trans ?_
        simp only [if_true, if_false, Option.bind_some, Option.bind, Option.toList, List.cons_append, List.nil_append, zite0, zite1, zite01, znn, ite_not, true_or, or_true, true_and, and_true, zn10, zn00, zk_135 hL, zr_135_0 hL, z6_0 hL, z6_1 hL, z6_2 hL, z6_3 hL, z6_4 hL, hb, zb_M_load_5, znm1]
        exact q1
      · have hi : i < S.1.2.1 := hi
        obtain ⟨b1, b2, b3⟩ := a3 i hi
        have hq := q3 i (by omega) (by omega)
        show I' 136 (5 + 3 * i) = (if i < _ then _ else _ : Int × (Int × Int)).1 ∧ I' 136 (6 + 3 * i) = (if i < _ then _ else _ : Int × (Int × Int)).2.1 ∧ I' 136 (7 + 3 * i) = (if i < _ then _ else _ : Int × (Int × Int)).2.2
        rw [q2 136 (6 + 3 * i) (by omega), q2 136 (7 + 3 * i) (by omega), hq]
        split
        · exact ⟨rfl, b2, b3⟩
        · exact ⟨b1, b2, b3⟩
  · rw [if_neg hs] at hb ⊢
    obtain ⟨I', h1, h2, h3⟩ := zM_findsc (X := X) (d := d + 2) (k := 0) (c := -1000001) (k' := 0) hL ho (by omega) (by omega) (by omega) hr
    refine ⟨I', ?_, h2, h3⟩
    refine ((zcal_go zp_M_load rfl).trans zb_M_load_0).trans ?_
    simp only [if_true, if_false, Option.bind_some, Option.bind, Option.toList, List.cons_append, List.nil_append, zite0, zite1, zite01, znn, ite_not, true_or, or_true, true_and, and_true, zn10, zn00, zk_135 hL, zr_135_0 hL, z6_0 hL, z6_1 hL, z6_2 hL, z6_3 hL, z6_4 hL, hb, zb_M_load_5, zb_M_load_15, zn0, h1]
theorem zo_load (ho : zSOK n S) (hn : n < 100000) {s : Int} : zSOK (n + 1) (zr_load S s).2 := by
  unfold zr_load
  split
  · next h =>
    split
    · exact zSOK_f ho (by omega) hn
    · obtain ⟨⟨a1, a2, a3, a4, a5, a6, a7⟩, h2⟩ := zSOK_up ho hn
      refine ⟨⟨a1, a2, a3, a4, a5, fun i hi => ?_, a7⟩, h2⟩
      have hi : i < S.1.2.1 := hi
      obtain ⟨b1, b2⟩ := a6 i hi
      show (0 ≤ (if i < _ then _ else _ : Int × (Int × Int)).1 ∧ (if i < _ then _ else _ : Int × (Int × Int)).1 < 7) ∧ (0 ≤ (if i < _ then _ else _ : Int × (Int × Int)).2.1 ∧ (if i < _ then _ else _ : Int × (Int × Int)).2.1 < S.1.1 0) ∧ (0 ≤ (if i < _ then _ else _ : Int × (Int × Int)).2.2 ∧ (if i < _ then _ else _ : Int × (Int × Int)).2.2 < S.1.1 0) ∧ (if i < _ then _ else _ : Int × (Int × Int)).2.1 ≠ (if i < _ then _ else _ : Int × (Int × Int)).2.2
      split
      · next hc =>
        have b := zld_ok _ _ i (by omega) hc
        exact ⟨⟨b.1, by show (S.2.2.2.2.1 s.toNat).2.2 i < 7; omega⟩, b2⟩
      · exact ⟨b1, b2⟩
  · exact zSOK_f ho (by omega) hn
theorem zA43 (hL : zLay L) : zA_43 X L := fun n a1 _ S ho hn => zCI (zr_load S a1) (by unfold zr_load; repeat' (first | exact ⟨_, rfl⟩ | refine zif1 ?_ ?_)) (zx_load (d := 37) hL ho) (zm_load (d := 36) hL ho) (zo_load ho hn)
/-- judge -/
def zjd (T : zTb) (f : Nat → Int) : Nat → Nat → Int
  | 0, _ => 0
  | m + 1, i => if f i = zpeaAt T i then zjd T f m (i + 1) else 1 + (i : Int)
def zr_judge (S : zSt) (s : Int) : zV × zSt := if 0 ≤ s ∧ s ≤ 3 then (if (S.2.2.2.2.1 s.toNat).1 = 0 then (.inl (-1000006), zSf S 5) else (.inl (zjd S.1 (S.2.2.2.2.1 s.toNat).2.2 (Nat.min (S.2.2.2.2.1 s.toNat).2.1 (S.1.2.1 + 1)) 0), S)) else (.inl (-1000001), zSf S 0)
theorem zx_judge_l {I : Nat → Nat → Int} (hL : zLay L) (ho : zSOK n S) (hr : zRX I S) {s : Nat} {w : Int} (hs : s < 4) : ∀ (m i : Nat), i + m = Nat.min (S.2.2.2.2.1 s).2.1 (S.1.2.1 + 1) → zgo X (zcal X zP (d + 5)) zc_X_judge 38 [some (.inr (.inr (.inl 1))), some (.inl w), some (.inr (.inr (.inl (127 + 2 * s)))), some (.inl (i : Int))] [] (I, L) = some (some (.inl (zjd S.1 (S.2.2.2.2.1 s).2.2 m i)), (I, L)) := by
  have h14 := ho.1.2.2.2.2.1
  obtain ⟨l1, l2, l3, l4⟩ := zsh hL hs
  obtain ⟨r1, r2, r3⟩ := hr.2.2.2.2.2.1 s hs
  have h40 := (ho.2.2.2.2.2.1 s hs).2.1
  have h22 : I 2 2 = (S.1.2.1 : Int) := hr.1.2.2.1
  intro m
  induction m with
  | zero =>
    intro i hi
    have hmin : i = min (S.2.2.2.2.1 s).2.1 (S.1.2.1 + 1) := hi
    rw [zb_X_judge_38]
    simp only [if_true, if_false, Option.bind_some, Option.bind, Option.toList, List.cons_append, List.nil_append, zite0, zite1, zite01, znn, ite_not, true_or, or_true, true_and, and_true, zn10, zn00, zk_1 hL, zr_1_0 hL, zk_2 hL, l2, r2, h22]
    by_cases c : i < (S.2.2.2.2.1 s).2.1
    · have : S.1.2.1 < i := by
        by_cases c2 : S.1.2.1 < i
        · exact c2
        · have := Nat.lt_min.mpr ⟨c, show i < S.1.2.1 + 1 by omega⟩
          omega
      rw [if_pos (by omega), if_pos (by omega)]
      rfl
    · rw [if_neg (by omega)]
      rfl
  | succ m ih =>
    intro i hi
    have hz1 : i < (S.2.2.2.2.1 s).2.1 := by have : Nat.min (S.2.2.2.2.1 s).2.1 (S.1.2.1 + 1) ≤ _ := Nat.min_le_left _ _; omega
    have hz2 : i < S.1.2.1 + 1 := by have : Nat.min (S.2.2.2.2.1 s).2.1 (S.1.2.1 + 1) ≤ _ := Nat.min_le_right _ _; omega
    have hq := zq_Table_peaBehind (X := X) (d := d) (ztabL hL (Or.inl rfl)) hr.1 ho.1 (k := i) (by omega)
    have e : zjd S.1 (S.2.2.2.2.1 s).2.2 (m + 1) i = if (S.2.2.2.2.1 s).2.2 i = zpeaAt S.1 i then zjd S.1 (S.2.2.2.2.1 s).2.2 m (i + 1) else 1 + (i : Int) := rfl
    rw [zb_X_judge_38, e]
    simp only [if_true, if_false, Option.bind_some, Option.bind, Option.toList, List.cons_append, List.nil_append, zite0, zite1, zite01, znn, ite_not, true_or, or_true, true_and, and_true, zn10, zn00, zk_1 hL, zr_1_0 hL, zk_2 hL, l2, l3, r2, h22, eq_true (show (i : Int) < ((S.2.2.2.2.1 s).2.1 : Int) by omega), eq_false (show ¬ (S.1.2.1 : Int) < (i : Int) by omega), zcsh hL hs (show i < 40 by omega), Int.toNat_natCast, r3 i hz1, hq, zb_X_judge_71, zi11 (show i < 200 by omega)]
    rw [zw32n (by omega), ih _ (by omega)]
    split <;> rfl
theorem zx_judge (hL : zLay L) (ho : zSOK n S) {s : Int} : zHX X L (d + 6) 114 [.inl s] S (zr_judge S s) := by
  intro I hr
  have hb := zq_X_isSheet (X := X) (d := d + 3) (σ := (I, L)) (v := s)
  unfold zr_judge
  by_cases hs : 0 ≤ s ∧ s ≤ 3
  · rw [if_pos hs] at hb ⊢
    obtain ⟨k, rfl⟩ := Int.eq_ofNat_of_zero_le hs.1
    rw [Int.toNat_natCast]
    obtain ⟨l1, l2, l3, l4⟩ := zsh hL (show k < 4 by omega)
    obtain ⟨r1, r2, r3⟩ := hr.2.2.2.2.2.1 k (by omega)
    by_cases h0 : (S.2.2.2.2.1 k).1 = 0
    · rw [if_pos h0]
      obtain ⟨I', h1, h2, h3⟩ := zX_tellc (X := X) (d := d + 4) (k := 5) (c := -1000006) hL ho (by omega) (by omega) hr
      refine ⟨I', ?_, h2, h3⟩
      refine ((zcal_go zp_X_judge rfl).trans zb_X_judge_0).trans ?_
      simp only [if_true, if_false, Option.bind_some, Option.bind, Option.toList, List.cons_append, List.nil_append, zite0, zite1, zite01, znn, ite_not, true_or, or_true, true_and, and_true, zn10, zn00, zk_1 hL, zr_1_0 hL, zk_2 hL, hb, zb_X_judge_4, zb_X_judge_35, zr_1_9 hL, zc125 hL (show k < 4 by omega), Int.toNat_natCast, l1, l2, r1, eq_true h0, h1]
    · rw [if_neg h0]
      refine ⟨I, ?_, hr, fun a ha => rfl⟩
      refine ((zcal_go zp_X_judge rfl).trans zb_X_judge_0).trans ?_
      simp only [if_true, if_false, Option.bind_some, Option.bind, Option.toList, List.cons_append, List.nil_append, zite0, zite1, zite01, znn, ite_not, true_or, or_true, true_and, and_true, zn10, zn00, zk_1 hL, zr_1_0 hL, zk_2 hL, hb, zb_X_judge_4, zr_1_9 hL, zc125 hL (show k < 4 by omega), Int.toNat_natCast, l1, l2, r1, eq_false h0]
      exact zx_judge_l hL ho hr (by omega) _ 0 (by omega)
  · rw [if_neg hs] at hb ⊢
    obtain ⟨I', h1, h2, h3⟩ := zX_tellc (X := X) (d := d + 4) (k := 0) (c := -1000001) hL ho (by omega) (by omega) hr
    refine ⟨I', ?_, h2, h3⟩
    refine ((zcal_go zp_X_judge rfl).trans zb_X_judge_0).trans ?_
    simp only [if_true, if_false, Option.bind_some, Option.bind, Option.toList, List.cons_append, List.nil_append, zite0, zite1, zite01, znn, ite_not, true_or, or_true, true_and, and_true, zn10, zn00, zk_1 hL, zr_1_0 hL, zk_2 hL, hb, zb_X_judge_4, zb_X_judge_13, h1]
theorem zm_judge_l {I : Nat → Nat → Int} (hL : zLay L) (ho : zSOK n S) (hr : zRM I S) {s : Nat} {w : Int} (hs : s < 4) : ∀ (m i : Nat), i + m = Nat.min (S.2.2.2.2.1 s).2.1 (S.1.2.1 + 1) → zgo X (zcal X zP (d + 4)) zc_M_judge 18 [some (.inr (.inr (.inl 135))), some (.inl (s : Int)), some (.inl w), some (.inl (i : Int))] [] (I, L) = some (some (.inl (zjd S.1 (S.2.2.2.2.1 s).2.2 m i)), (I, L)) := by
  have h14 := ho.1.2.2.2.2.1
  obtain ⟨r1, r2, r3⟩ := hr.2.2.2.2.2.1 s hs
  have h40 := (ho.2.2.2.2.2.1 s hs).2.1
  have h22 : I 136 1 = (S.1.2.1 : Int) := hr.1.2.1
  intro m
  induction m with
  | zero =>
    intro i hi
    have hmin : i = min (S.2.2.2.2.1 s).2.1 (S.1.2.1 + 1) := hi
    rw [zb_M_judge_18]
    simp only [if_true, if_false, Option.bind_some, Option.bind, Option.toList, List.cons_append, List.nil_append, zite0, zite1, zite01, znn, ite_not, true_or, or_true, true_and, and_true, zn10, zn00, zk_135 hL, zr_135_0 hL, z6_0 hL, z6_1 hL, z6_2 hL, z6_3 hL, z6_4 hL, zr_135_28 hL, zc148 hL hs, Int.toNat_natCast, r2, h22]
    by_cases c : i < (S.2.2.2.2.1 s).2.1
    · have : S.1.2.1 < i := by
        by_cases c2 : S.1.2.1 < i
        · exact c2
        · have := Nat.lt_min.mpr ⟨c, show i < S.1.2.1 + 1 by omega⟩
          omega
      rw [if_pos (by omega), if_pos (by omega)]
      rfl
    · rw [if_neg (by omega)]
      rfl
  | succ m ih =>
    intro i hi
    have hz1 : i < (S.2.2.2.2.1 s).2.1 := by have : Nat.min (S.2.2.2.2.1 s).2.1 (S.1.2.1 + 1) ≤ _ := Nat.min_le_left _ _; omega
    have hz2 : i < S.1.2.1 + 1 := by have : Nat.min (S.2.2.2.2.1 s).2.1 (S.1.2.1 + 1) ≤ _ := Nat.min_le_right _ _; omega
    have hq := zq_M_peaBehind (X := X) (d := d) hL hr.1 ho.1 (k := i) (by omega)
    have e : zjd S.1 (S.2.2.2.2.1 s).2.2 (m + 1) i = if (S.2.2.2.2.1 s).2.2 i = zpeaAt S.1 i then zjd S.1 (S.2.2.2.2.1 s).2.2 m (i + 1) else 1 + (i : Int) := rfl
    rw [zb_M_judge_18, e]
    simp only [if_true, if_false, Option.bind_some, Option.bind, Option.toList, List.cons_append, List.nil_append, zite0, zite1, zite01, znn, ite_not, true_or, or_true, true_and, and_true, zn10, zn00, zk_135 hL, zr_135_0 hL, z6_0 hL, z6_1 hL, z6_2 hL, z6_3 hL, z6_4 hL, zr_135_28 hL, zr_135_29 hL, zc148 hL hs, r2, h22, eq_true (show (i : Int) < ((S.2.2.2.2.1 s).2.1 : Int) by omega), eq_false (show ¬ (S.1.2.1 : Int) < (i : Int) by omega), zi40 hs (show i < 200 by omega), zc149 hL (show 40 * s + i < 160 by omega), Int.toNat_natCast, r3 i hz1, hq, zb_M_judge_54, zi11 (show i < 200 by omega)]
    rw [zw32n (by omega), ih _ (by omega)]
    split <;> rfl
theorem zm_judge (hL : zLay L) (ho : zSOK n S) {s : Int} : zHM X L (d + 5) 238 [.inl s] S (zr_judge S s) := by
  intro I hr
  have hb := zq_M_whyNone (X := X) (d := d + 1) hL hr (s := s)
  unfold zr_judge
  by_cases hs : 0 ≤ s ∧ s ≤ 3
  · rw [if_pos hs] at hb ⊢
    obtain ⟨k, rfl⟩ := Int.eq_ofNat_of_zero_le hs.1
    rw [Int.toNat_natCast] at hb ⊢
    by_cases h0 : (S.2.2.2.2.1 k).1 = 0
    · rw [if_pos h0] at hb ⊢
      obtain ⟨I', h1, h2, h3⟩ := zM_findsc (X := X) (d := d + 3) (k := 5) (c := -1000006) (k' := 5) hL ho (by omega) (by omega) (by omega) hr
      refine ⟨I', ?_, h2, h3⟩
      refine ((zcal_go zp_M_judge rfl).trans zb_M_judge_0).trans ?_
      simp only [if_true, if_false, Option.bind_some, Option.bind, Option.toList, List.cons_append, List.nil_append, zite0, zite1, zite01, znn, ite_not, true_or, or_true, true_and, and_true, zn10, zn00, zk_135 hL, zr_135_0 hL, z6_0 hL, z6_1 hL, z6_2 hL, z6_3 hL, z6_4 hL, hb, zb_M_judge_5, zb_M_judge_15, zn50, h1]
    · rw [if_neg h0] at hb ⊢
      refine ⟨I, ?_, hr, fun a ha => rfl⟩
      refine ((zcal_go zp_M_judge rfl).trans zb_M_judge_0).trans ?_
      simp only [if_true, if_false, Option.bind_some, Option.bind, Option.toList, List.cons_append, List.nil_append, zite0, zite1, zite01, znn, ite_not, true_or, or_true, true_and, and_true, zn10, zn00, zk_135 hL, zr_135_0 hL, z6_0 hL, z6_1 hL, z6_2 hL, z6_3 hL, z6_4 hL, hb, zb_M_judge_5, znm1]
      exact zm_judge_l hL ho hr (by omega) _ 0 (by omega)
  · rw [if_neg hs] at hb ⊢
    obtain ⟨I', h1, h2, h3⟩ := zM_findsc (X := X) (d := d + 3) (k := 0) (c := -1000001) (k' := 0) hL ho (by omega) (by omega) (by omega) hr
    refine ⟨I', ?_, h2, h3⟩
    refine ((zcal_go zp_M_judge rfl).trans zb_M_judge_0).trans ?_
    simp only [if_true, if_false, Option.bind_some, Option.bind, Option.toList, List.cons_append, List.nil_append, zite0, zite1, zite01, znn, ite_not, true_or, or_true, true_and, and_true, zn10, zn00, zk_135 hL, zr_135_0 hL, z6_0 hL, z6_1 hL, z6_2 hL, z6_3 hL, z6_4 hL, hb, zb_M_judge_5, zb_M_judge_15, zn0, h1]
theorem zo_judge (ho : zSOK n S) (hn : n < 100000) {s : Int} : zSOK (n + 1) (zr_judge S s).2 := by
  unfold zr_judge
  repeat' split
  all_goals first
    | exact zSOK_up ho hn
    | exact zSOK_f ho (by omega) hn
theorem zA44 (hL : zLay L) : zA_44 X L := fun n a1 _ S ho hn => zCI (zr_judge S a1) (by unfold zr_judge; repeat' (first | exact ⟨_, rfl⟩ | refine zif1 ?_ ?_)) (zx_judge (d := 34) hL ho) (zm_judge (d := 35) hL ho) (zo_judge ho hn)
end
