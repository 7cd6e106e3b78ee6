/-! CONTRACTS OF CALLS: lost, may, both. -/
section
variable {X : zX} {C : zC} {d n : Nat} {L : zLt} {S : zSt} {T : zTb} {I : Nat → Nat → Int}
/-- the first of so many k, from the i-th on, behind which an eye is lost; -1: none -/
def zlo (T : zTb) (e : Nat) : Nat → Nat → Int
  | 0, _ => -1
  | m + 1, i => if zgs T e i = zpeaAt T i then zlo T e m (i + 1) else (i : Int)
theorem zlo_s {e m i : Nat} : zlo T e (m + 1) i = if zgs T e i = zpeaAt T i then zlo T e m (i + 1) else (i : Int) := rfl
def zr_lost (S : zSt) (e : Int) : zV × zSt := if 0 ≤ e ∧ e ≤ 3 then (if zlo S.1 e.toNat (S.1.2.1 + 1) 0 < 0 then (.inl (-1000004), zSf S 3) else (.inl (zlo S.1 e.toNat (S.1.2.1 + 1) 0), S)) else (.inl (-1000001), zSf S 0)
theorem zx_lost_l (hL : zLay L) {e : Nat} (ho : zTOK n T) (hT : zTC I 2 T) (hw : ∀ k, k ≤ T.2.1 → ∀ q, q < 6 → I (83 + 2 + k) q = zW T e (-1) k q) : ∀ (m i : Nat), i + m = T.2.1 + 1 → zgo X (zcal X zP (d + 5)) zc_X_lost 29 [some (.inr (.inr (.inl 1))), some (.inl (e : Int)), some (.inl (i : Int))] [] (I, L) = if zlo T e m i < 0 then zgo X (zcal X zP (d + 5)) zc_X_lost 29 [some (.inr (.inr (.inl 1))), some (.inl (e : Int)), some (.inl ((T.2.1 + 1 : Nat) : Int))] [] (I, L) else some (some (.inl (zlo T e m i)), (I, L)) := by
  have h14 := ho.2.2.2.2.1
  have e2 : I 2 2 = (T.2.1 : Int) := hT.2.2.1
  intro m
  induction m with
  | zero =>
    intro i hi
    have hi : i = T.2.1 + 1 := by omega
    rw [hi]
    exact (if_pos (by show (-1 : Int) < 0; decide)).symm
  | succ m ih =>
    intro i hi
    have hq := zq_likeliest (X := X) (d := d + 4) (I := I) (k := i) (w := zW T e (-1) i) (zsigL hL (Or.inl rfl)) (by omega) (hw i (by omega))
    have hq : _ = some (some (Sum.inl (zgs T e i)), (I, L)) := hq
    have hp := zq_Table_peaBehind (X := X) (d := d) (ztabL hL (Or.inl rfl)) hT ho (k := i) (by omega)
    have hii : ¬ (T.2.1 : Int) < (i : Int) := by omega
    have hi0 : ¬ (i : Int) < 0 := by omega
    have him : i < 1000000 := by omega
    have ihh := ih (i + 1) (by omega)
    rw [zlo_s]
    by_cases c : zgs T e i = zpeaAt T i
    · rw [if_pos c]
      refine Eq.trans ?_ ihh
      rw [zb_X_lost_29]
      simp only [if_true, if_false, Option.bind_some, Option.bind, Option.toList, List.cons_append, List.nil_append, zite0, zite1, zite01, znn, ite_not, true_or, or_true, true_and, and_true, zn10, zn00, zk_1 hL, zr_1_0 hL, zk_2 hL, e2, eq_false hii, zr_1_4 hL, zk_83 hL, hq, zb_X_lost_48, hp, zb_X_lost_56, eq_true c]
      rw [zw32n him]
    · rw [if_neg c, if_neg hi0, zb_X_lost_29]
      simp only [if_true, if_false, Option.bind_some, Option.bind, Option.toList, List.cons_append, List.nil_append, zite0, zite1, zite01, znn, ite_not, true_or, or_true, true_and, and_true, zn10, zn00, zk_1 hL, zr_1_0 hL, zk_2 hL, e2, eq_false hii, zr_1_4 hL, zk_83 hL, hq, zb_X_lost_48, hp, zb_X_lost_56, eq_false c]
theorem zx_lost (hL : zLay L) (ho : zSOK n S) {e : Int} : zHX X L (d + 6) 83 [.inl e] S (zr_lost S e) := by
  intro I hr
  have h14 := ho.1.2.2.2.2.1
  have hb := zq_X_isEye (X := X) (d := d + 3) (σ := (I, L)) (v := e)
  unfold zr_lost
  by_cases he : 0 ≤ e ∧ e ≤ 3
  · rw [if_pos he] at hb ⊢
    obtain ⟨e, rfl⟩ := Int.eq_ofNat_of_zero_le he.1
    rw [Int.toNat_natCast]
    obtain ⟨I', q1, q2, q3⟩ := zq_follow (X := X) (d := d) (sharp := -1) hL (Or.inl rfl) (show e < 4 by omega) ho.1 hr.1
    have hr' := zRX_scr ho (fun a ha => q2 a (by omega)) hr
    have hl := zx_lost_l (X := X) (d := d) hL ho.1 hr'.1 q3 (S.1.2.1 + 1) 0 (by omega)
    have key : zcal X zP (d + 6) 83 [.inr (.inr (.inl 1)), .inl (e : Int)] (I, L) = zgo X (zcal X zP (d + 5)) zc_X_lost 29 [some (.inr (.inr (.inl 1))), some (.inl (e : Int)), some (.inl 0)] [] (I', L) := by
      refine ((zcal_go zp_X_lost rfl).trans zb_X_lost_0).trans ?_
      simp only [if_true, if_false, Option.bind_some, Option.bind, Option.toList, List.cons_append, List.nil_append, zite0, zite1, zite01, znn, ite_not, true_or, or_true, true_and, and_true, zn10, zn00, zk_1 hL, zr_1_0 hL, zk_2 hL, hb, zb_X_lost_4, zr_1_4 hL, zk_83 hL, q1, zb_X_lost_27]
    have key := key.trans hl
    by_cases c : zlo S.1 e (S.1.2.1 + 1) 0 < 0
    · rw [if_pos c] at key ⊢
      obtain ⟨J, h1, h2, h3⟩ := zX_tellc (X := X) (d := d + 4) (k := 3) (c := -1000004) hL ho (by omega) (by omega) hr'
      have e2 : I' 2 2 = (S.1.2.1 : Int) := hr'.1.2.2.1
      refine ⟨J, key.trans ?_, h2, fun a ha => (h3 a ha).trans (q2 a (by omega))⟩
      rw [zb_X_lost_29]
      simp only [if_true, if_false, Option.bind_some, Option.bind, Option.toList, List.cons_append, List.nil_append, zite0, zite1, zite01, znn, ite_not, true_or, or_true, true_and, and_true, zn10, zn00, zk_1 hL, zr_1_0 hL, zk_2 hL, e2, eq_true (show (S.1.2.1 : Int) < ((S.1.2.1 + 1 : Nat) : Int) by omega), h1, zb_X_lost_73]
    · rw [if_neg c] at key ⊢
      exact ⟨I', key, hr', fun a ha => q2 a (by omega)⟩
  · rw [if_neg he] at hb ⊢
    obtain ⟨J, h1, h2, h3⟩ := zX_tellc (X := X) (d := d + 4) (k := 0) (c := -1000001) hL ho (by omega) (by omega) hr
    refine ⟨J, ?_, h2, h3⟩
    refine ((zcal_go zp_X_lost rfl).trans zb_X_lost_0).trans ?_
    simp only [if_true, if_false, Option.bind_some, Option.bind, Option.toList, List.cons_append, List.nil_append, zite0, zite1, zite01, znn, ite_not, true_or, or_true, true_and, and_true, zn10, zn00, zk_1 hL, zr_1_0 hL, zk_2 hL, hb, zb_X_lost_4, h1, zb_X_lost_13]
theorem zm_lost_l (hL : zLay L) {e : Nat} (he : e < 4) (ho : zTOK n T) : ∀ (m i : Nat) (I : Nat → Nat → Int), i + m = T.2.1 + 1 → zTM I 136 T → ∃ I', zgo X (zcal X zP (d + 5)) zc_M_lost 15 [some (.inr (.inr (.inl 135))), some (.inl (e : Int)), some (.inl (i : Int))] [] (I, L) = (if zlo T e m i < 0 then zgo X (zcal X zP (d + 5)) zc_M_lost 15 [some (.inr (.inr (.inl 135))), some (.inl (e : Int)), some (.inl ((T.2.1 + 1 : Nat) : Int))] [] (I', L) else some (some (.inl (zlo T e m i)), (I', L))) ∧ ∀ a, a ≠ 141 → a ≠ 142 → I' a = I a := by
  have h14 := ho.2.2.2.2.1
  intro m
  induction m with
  | zero =>
    intro i I hi _
    have hi : i = T.2.1 + 1 := by omega
    refine ⟨I, ?_, fun _ _ _ => rfl⟩
    rw [hi]
    exact (if_pos (by show (-1 : Int) < 0; decide)).symm
  | succ m ih =>
    intro i I hi hT
    have e2 : I 136 1 = (T.2.1 : Int) := hT.2.1
    obtain ⟨I1, q1, q2⟩ := zq_M_guessB (X := X) (d := d) hL he ho hT (show i ≤ T.2.1 by omega)
    have hT1 : zTM I1 136 T := zTM_row (q2 136 (by omega) (by omega)) hT
    have hp := zq_M_peaBehind (X := X) (d := d + 1) hL hT1 ho (k := i) (by omega)
    have hii : ¬ (T.2.1 : Int) < (i : Int) := by omega
    have hi0 : ¬ (i : Int) < 0 := by omega
    have him : i < 1000000 := by omega
    obtain ⟨I', r1, r2⟩ := ih (i + 1) I1 (by omega) hT1
    rw [zlo_s]
    by_cases c : zgs T e i = zpeaAt T i
    · rw [if_pos c]
      refine ⟨I', ?_, fun a h1 h2 => (r2 a h1 h2).trans (q2 a h1 h2)⟩
      refine Eq.trans ?_ r1
      rw [zb_M_lost_15]
      simp only [if_true, if_false, Option.bind_some, Option.bind, Option.toList, List.cons_append, List.nil_append, zite0, zite1, zite01, znn, ite_not, true_or, or_true, true_and, and_true, zn10, zn00, zk_135 hL, zr_135_0 hL, z6_0 hL, z6_1 hL, z6_2 hL, z6_3 hL, z6_4 hL, e2, eq_false hii, q1, zb_M_lost_31, hp, zb_M_lost_36, eq_true c]
      rw [zw32n him]
    · rw [if_neg c]
      refine ⟨I1, ?_, q2⟩
      rw [if_neg hi0, zb_M_lost_15]
      simp only [if_true, if_false, Option.bind_some, Option.bind, Option.toList, List.cons_append, List.nil_append, zite0, zite1, zite01, znn, ite_not, true_or, or_true, true_and, and_true, zn10, zn00, zk_135 hL, zr_135_0 hL, z6_0 hL, z6_1 hL, z6_2 hL, z6_3 hL, z6_4 hL, e2, eq_false hii, q1, zb_M_lost_31, hp, zb_M_lost_36, eq_false c]
theorem zm_lost (hL : zLay L) (ho : zSOK n S) {e : Int} : zHM X L (d + 6) 175 [.inl e] S (zr_lost S e) := by
  intro I hr
  have h14 := ho.1.2.2.2.2.1
  have hb := zq_M_isFour (X := X) (d := d + 3) (σ := (I, L)) (v := e)
  unfold zr_lost
  by_cases he : 0 ≤ e ∧ e ≤ 3
  · rw [if_pos he] at hb ⊢
    obtain ⟨e, rfl⟩ := Int.eq_ofNat_of_zero_le he.1
    rw [Int.toNat_natCast]
    obtain ⟨I', q1, q2⟩ := zm_lost_l (X := X) (d := d) hL (show e < 4 by omega) ho.1 (S.1.2.1 + 1) 0 I (by omega) hr.1
    have hr' := zRM_scr (fun a _ ha => q2 a (by omega) (by omega)) hr
    have key : zcal X zP (d + 6) 175 [.inr (.inr (.inl 135)), .inl (e : Int)] (I, L) = zgo X (zcal X zP (d + 5)) zc_M_lost 15 [some (.inr (.inr (.inl 135))), some (.inl (e : Int)), some (.inl 0)] [] (I, L) := by
      refine ((zcal_go zp_M_lost rfl).trans zb_M_lost_0).trans ?_
      simp only [if_true, if_false, Option.bind_some, Option.bind, Option.toList, List.cons_append, List.nil_append, zite0, zite1, zite01, znn, ite_not, true_or, or_true, true_and, and_true, zn10, zn00, zk_135 hL, zr_135_0 hL, z6_0 hL, z6_1 hL, z6_2 hL, z6_3 hL, z6_4 hL, hb, zb_M_lost_4]
    have key := key.trans q1
    by_cases c : zlo S.1 e (S.1.2.1 + 1) 0 < 0
    · rw [if_pos c] at key ⊢
      obtain ⟨J, h1, h2, h3⟩ := zM_findsc (X := X) (d := d + 4) (k := 3) (c := -1000004) (k' := 3) hL ho (by omega) (by omega) (by omega) hr'
      have e2 : I' 136 1 = (S.1.2.1 : Int) := hr'.1.2.1
      refine ⟨J, key.trans ?_, h2, fun a ha => (h3 a ha).trans (q2 a (by omega) (by omega))⟩
      rw [zb_M_lost_15]
      simp only [if_true, if_false, Option.bind_some, Option.bind, Option.toList, List.cons_append, List.nil_append, zite0, zite1, zite01, znn, ite_not, true_or, or_true, true_and, and_true, zn10, zn00, zk_135 hL, zr_135_0 hL, z6_0 hL, z6_1 hL, z6_2 hL, z6_3 hL, z6_4 hL, e2, eq_true (show (S.1.2.1 : Int) < ((S.1.2.1 + 1 : Nat) : Int) by omega), h1, zb_M_lost_52]
    · rw [if_neg c] at key ⊢
      exact ⟨I', key, hr', fun a ha => q2 a (by omega) (by omega)⟩
  · rw [if_neg he] at hb ⊢
    obtain ⟨J, h1, h2, h3⟩ := zM_findsc (X := X) (d := d + 4) (k := 0) (c := -1000001) (k' := 0) hL ho (by omega) (by omega) (by omega) hr
    refine ⟨J, ?_, h2, h3⟩
    refine ((zcal_go zp_M_lost rfl).trans zb_M_lost_0).trans ?_
    simp only [if_true, if_false, Option.bind_some, Option.bind, Option.toList, List.cons_append, List.nil_append, zite0, zite1, zite01, znn, ite_not, true_or, or_true, true_and, and_true, zn10, zn00, zk_135 hL, zr_135_0 hL, z6_0 hL, z6_1 hL, z6_2 hL, z6_3 hL, z6_4 hL, hb, zb_M_lost_4, h1, zb_M_lost_12]
theorem zo_lost (ho : zSOK n S) (hn : n < 100000) {e : Int} : zSOK (n + 1) (zr_lost S e).2 := by
  unfold zr_lost
  exact zif2 (fun _ => zif2 (fun _ => zSOK_f ho (by omega) hn) (fun _ => zSOK_up ho hn)) (fun _ => zSOK_f ho (by omega) hn)
theorem zA13 (hL : zLay L) : zA_13 X L := fun n a1 _ S ho hn => zCI (zr_lost S a1) (by unfold zr_lost; repeat' (first | exact ⟨_, rfl⟩ | refine zif1 ?_ ?_)) (zx_lost (d := 34) hL ho) (zm_lost (d := 34) hL ho) (zo_lost ho hn)
/-- may -/
def zmy (w : Nat → Int) (i : Nat) (a : Int) : Int := if 0 < w i then zor a (zshl 1 (i : Int)) else a
def zr_may (S : zSt) (e : Int) : zV × zSt := if 0 ≤ e ∧ e ≤ 3 then (.inl (zfor (zmy (zW S.1 e.toNat (-1) S.1.2.1)) (S.1.1 0).toNat 0 0), S) else (.inl (-1000001), zSf S 0)
theorem zmy_s {w : Nat → Int} {m i : Nat} {a : Int} : zfor (zmy w) (m + 1) i a = zfor (zmy w) m (i + 1) (if 0 < w i then zor a (zshl 1 (i : Int)) else a) := rfl
theorem zx_may_l (hL : zLay L) {c N : Nat} {w : Nat → Int} {e : Int} (hc : c ≤ 6) (hN : N ≤ 14) (h0 : I 2 0 = (c : Int)) (h2 : I 2 2 = (N : Int)) (hw : ∀ q, q < 6 → I (83 + 2 + N) q = w q) : ∀ (m i : Nat) (a : Int), i + m = c → zgo X (zcal X zP (d + 1)) zc_X_may 31 [some (.inr (.inr (.inl 1))), some (.inl e), some (.inl a), some (.inl (i : Int))] [] (I, L) = some (some (.inl (zfor (zmy w) m i a)), (I, L)) := by
  intro m
  induction m with
  | zero =>
    intro i a hi
    rw [zb_X_may_31]
    simp only [if_true, if_false, Option.bind_some, Option.bind, Option.toList, List.cons_append, List.nil_append, zite0, zite1, zite01, znn, ite_not, true_or, or_true, true_and, and_true, zn10, zn00, zk_1 hL, zr_1_0 hL, zk_2 hL, h0]
    rw [if_neg (by omega)]
    rfl
  | succ m ih =>
    intro i a hi
    have hq := zq_at (X := X) (d := d) (I := I) (k := N) (p := (i : Int)) (zsigL hL (Or.inl rfl)) (by omega) (by omega)
    have ev : (if (i : Int) < 0 then 0 else I (83 + 2 + N) (i : Int).toNat) = w i := (if_neg (by omega)).trans (by rw [Int.toNat_natCast]; exact hw i (by omega))
    rw [ev] at hq
    rw [zb_X_may_31, zmy_s]
    simp only [if_true, if_false, Option.bind_some, Option.bind, Option.toList, List.cons_append, List.nil_append, zite0, zite1, zite01, znn, ite_not, true_or, or_true, true_and, and_true, zn10, zn00, zk_1 hL, zr_1_0 hL, zk_2 hL, h0, h2, eq_true (show (i : Int) < (c : Int) by omega), zr_1_4 hL, zk_83 hL, hq, zb_X_may_57, zcmp_gt]
    rw [zw32n (by omega), ih _ _ (by omega), ih _ _ (by omega)]
    split <;> rfl
theorem zx_may (hL : zLay L) (ho : zSOK n S) {e : Int} : zHX X L (d + 6) 85 [.inl e] S (zr_may S e) := by
  intro I hr
  have h14 := ho.1.2.2.2.2.1
  have h0 := ho.1.1
  have hb := zq_X_isEye (X := X) (d := d + 3) (σ := (I, L)) (v := e)
  unfold zr_may
  by_cases he : 0 ≤ e ∧ e ≤ 3
  · rw [if_pos he] at hb ⊢
    obtain ⟨e, rfl⟩ := Int.eq_ofNat_of_zero_le he.1
    rw [Int.toNat_natCast]
    obtain ⟨I', q1, q2, q3⟩ := zq_follow (X := X) (d := d) (sharp := -1) hL (Or.inl rfl) (show e < 4 by omega) ho.1 hr.1
    have hr' := zRX_scr ho (fun a ha => q2 a (by omega)) hr
    obtain ⟨c, hc⟩ := Int.eq_ofNat_of_zero_le (show 0 ≤ S.1.1 0 by omega)
    have hl := zx_may_l (X := X) (d := d + 4) (I := I') hL (c := c) (N := S.1.2.1) (w := zW S.1 e (-1) S.1.2.1) (e := (e : Int)) (by omega) h14 (by rw [← hc]; exact hr'.1.1) hr'.1.2.2.1 (q3 _ (Nat.le_refl _)) c 0 0 (by omega)
    refine ⟨I', ?_, hr', fun a ha => q2 a (by omega)⟩
    rw [hc, Int.toNat_natCast]
    refine ((zcal_go zp_X_may rfl).trans zb_X_may_0).trans ?_
    simp only [if_true, if_false, Option.bind_some, Option.bind, Option.toList, List.cons_append, List.nil_append, zite0, zite1, zite01, znn, ite_not, true_or, or_true, true_and, and_true, zn10, zn00, zk_1 hL, zr_1_0 hL, zk_2 hL, hb, zb_X_may_4, zr_1_4 hL, zk_83 hL, q1, zb_X_may_27]
    exact hl
  · rw [if_neg he] at hb ⊢
    obtain ⟨J, h1, h2, h3⟩ := zX_tellc (X := X) (d := d + 4) (k := 0) (c := -1000001) hL ho (by omega) (by omega) hr
    refine ⟨J, ?_, h2, h3⟩
    refine ((zcal_go zp_X_may rfl).trans zb_X_may_0).trans ?_
    simp only [if_true, if_false, Option.bind_some, Option.bind, Option.toList, List.cons_append, List.nil_append, zite0, zite1, zite01, znn, ite_not, true_or, or_true, true_and, and_true, zn10, zn00, zk_1 hL, zr_1_0 hL, zk_2 hL, hb, zb_X_may_4, h1, zb_X_may_13]
theorem zm_may_l (hL : zLay L) {c : Nat} {w : Nat → Int} {e : Int} (hc : c ≤ 6) (h0 : I 136 0 = (c : Int)) (hw : ∀ q, q < 6 → I 141 q = w q) : ∀ (m i : Nat) (a : Int), i + m = c → zint a → zgo X C zc_M_may 29 [some (.inr (.inr (.inl 135))), some (.inl e), some (.inl a), some (.inl (i : Int))] [] (I, L) = some (some (.inl (zfor (zmy w) m i a)), (I, L)) := by
  intro m
  induction m with
  | zero =>
    intro i a hi _
    rw [zb_M_may_29]
    simp only [if_true, if_false, Option.bind_some, Option.bind, Option.toList, List.cons_append, List.nil_append, zite0, zite1, zite01, znn, ite_not, true_or, or_true, true_and, and_true, zn10, zn00, zk_135 hL, zr_135_0 hL, z6_0 hL, z6_1 hL, z6_2 hL, z6_3 hL, z6_4 hL, h0]
    rw [if_neg (by omega)]
    rfl
  | succ m ih =>
    intro i a hi ha
    rw [zb_M_may_29, zmy_s]
    simp only [if_true, if_false, Option.bind_some, Option.bind, Option.toList, List.cons_append, List.nil_append, zite0, zite1, zite01, znn, ite_not, true_or, or_true, true_and, and_true, zn10, zn00, zk_135 hL, zr_135_0 hL, z6_0 hL, z6_1 hL, z6_2 hL, z6_3 hL, z6_4 hL, h0, eq_true (show (i : Int) < (c : Int) by omega), zr_135_7 hL, zc141 hL (show i < 6 by omega), Int.toNat_natCast, hw i (show i < 6 by omega), zcmp_gt]
    rw [zw32n (by omega), zor_0 ha, ih _ _ (by omega) zor_int, ih _ _ (by omega) ha]
    split <;> rfl
theorem zm_may (hL : zLay L) (ho : zSOK n S) {e : Int} : zHM X L (d + 5) 177 [.inl e] S (zr_may S e) := by
  intro I hr
  have h0 := ho.1.1
  have e1 : I 136 1 = (S.1.2.1 : Int) := hr.1.2.1
  have hb := zq_M_isFour (X := X) (d := d + 2) (σ := (I, L)) (v := e)
  unfold zr_may
  by_cases he : 0 ≤ e ∧ e ≤ 3
  · rw [if_pos he] at hb ⊢
    obtain ⟨e, rfl⟩ := Int.eq_ofNat_of_zero_le he.1
    rw [Int.toNat_natCast]
    obtain ⟨I', q1, q2, q3⟩ := zq_M_watches (X := X) (d := d) (sharp := -1) hL (show e < 4 by omega) ho.1 hr.1 (Nat.le_refl S.1.2.1)
    have hr' := zRM_scr (fun a _ ha => q2 a (by omega) (by omega)) hr
    obtain ⟨c, hc⟩ := Int.eq_ofNat_of_zero_le (show 0 ≤ S.1.1 0 by omega)
    have hl := zm_may_l (X := X) (C := zcal X zP (d + 4)) (I := I') hL (c := c) (w := zW S.1 e (-1) S.1.2.1) (e := (e : Int)) (by omega) (by rw [← hc]; exact hr'.1.1 0 (by omega)) q3 c 0 0 (by omega) (by unfold zint; omega)
    refine ⟨I', ?_, hr', fun a ha => q2 a (by omega) (by omega)⟩
    rw [hc, Int.toNat_natCast]
    refine ((zcal_go zp_M_may rfl).trans zb_M_may_0).trans ?_
    simp only [if_true, if_false, Option.bind_some, Option.bind, Option.toList, List.cons_append, List.nil_append, zite0, zite1, zite01, znn, ite_not, true_or, or_true, true_and, and_true, zn10, zn00, zk_135 hL, zr_135_0 hL, z6_0 hL, z6_1 hL, z6_2 hL, z6_3 hL, z6_4 hL, hb, zb_M_may_4, e1, q1, zb_M_may_25]
    exact hl
  · rw [if_neg he] at hb ⊢
    obtain ⟨J, h1, h2, h3⟩ := zM_findsc (X := X) (d := d + 3) (k := 0) (c := -1000001) (k' := 0) hL ho (by omega) (by omega) (by omega) hr
    refine ⟨J, ?_, h2, h3⟩
    refine ((zcal_go zp_M_may rfl).trans zb_M_may_0).trans ?_
    simp only [if_true, if_false, Option.bind_some, Option.bind, Option.toList, List.cons_append, List.nil_append, zite0, zite1, zite01, znn, ite_not, true_or, or_true, true_and, and_true, zn10, zn00, zk_135 hL, zr_135_0 hL, z6_0 hL, z6_1 hL, z6_2 hL, z6_3 hL, z6_4 hL, hb, zb_M_may_4, h1, zb_M_may_12]
theorem zo_may (ho : zSOK n S) (hn : n < 100000) {e : Int} : zSOK (n + 1) (zr_may S e).2 := by
  unfold zr_may
  exact zif2 (fun _ => zSOK_up ho hn) (fun _ => zSOK_f ho (by omega) hn)
theorem zA15 (hL : zLay L) : zA_15 X L := fun n a1 _ S ho hn => zCI (zr_may S a1) (by unfold zr_may; exact zif1 ⟨_, rfl⟩ ⟨_, rfl⟩) (zx_may (d := 34) hL ho) (zm_may (d := 35) hL ho) (zo_may ho hn)
end
