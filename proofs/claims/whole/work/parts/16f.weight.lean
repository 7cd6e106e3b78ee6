/-! CONTRACTS OF CALLS: watch, feint, kindFor, play. -/
section
variable {X : zX} {C : zC} {d n : Nat} {L : zLt} {S : zSt} {T : zTb} {I : Nat → Nat → Int}
/-- the first of most: so many more, from the i-th on -/
def zbl (v : Nat → Int) : Nat → Nat → Int → Int → Int
  | 0, _, b, _ => b
  | m + 1, i, b, mo => if mo < v i then zbl v m (i + 1) (i : Int) (v i) else zbl v m (i + 1) b mo
/-- the first of least -/
def zml (v : Nat → Int) : Nat → Nat → Int → Int → Int
  | 0, _, b, _ => b
  | m + 1, i, b, mo => if v i < mo then zml v m (i + 1) (i : Int) (v i) else zml v m (i + 1) b mo
theorem zbl_s {v : Nat → Int} {m i : Nat} {b mo : Int} : zbl v (m + 1) i b mo = if mo < v i then zbl v m (i + 1) (i : Int) (v i) else zbl v m (i + 1) b mo := rfl
theorem zml_s {v : Nat → Int} {m i : Nat} {b mo : Int} : zml v (m + 1) i b mo = if v i < mo then zml v m (i + 1) (i : Int) (v i) else zml v m (i + 1) b mo := rfl
def zr_watch (S : zSt) (e : Int) : zV × zSt := if 0 ≤ e ∧ e ≤ 3 then (if 0 < S.1.2.1 then (.inl (zbl (fun i => zri S.1 e.toNat (i : Int)) (S.1.2.1 - 1) 1 0 (zri S.1 e.toNat 0)), S) else (.inl (-1000004), zSf S 3)) else (.inl (-1000001), zSf S 0)
theorem zx_watch_l (hL : zLay L) {e N : Nat} (he : e < 4) (ho : zTOK n T) (hN : T.2.1 = N) : ∀ (m i : Nat) (b mo : Int) (o : Option zV) (I : Nat → Nat → Int), i + m = N → zTC I 2 T → ∃ I', zgo X (zcal X zP (d + 6)) zc_X_watch 40 [some (.inr (.inr (.inl 1))), some (.inl (e : Int)), some (.inl b), some (.inr (.inl mo)), none, some (.inl (i : Int)), o, none] [] (I, L) = some (some (.inl (zbl (fun i => zri T e (i : Int)) m i b mo)), (I', L)) ∧ ∀ a, (a < 83 ∨ 100 ≤ a) → I' a = I a := by
  have h14 := ho.2.2.2.2.1
  intro m
  induction m with
  | zero =>
    intro i b mo o I hi hT
    have e2 : I 2 2 = (T.2.1 : Int) := hT.2.2.1
    refine ⟨I, ?_, fun _ _ => rfl⟩
    rw [zb_X_watch_40]
    simp only [if_true, if_false, Option.bind_some, Option.bind, Option.toList, List.cons_append, List.nil_append, zite0, zite1, zite01, znn, ite_not, true_or, or_true, true_and, and_true, zn10, zn00, zk_1 hL, zr_1_0 hL, zk_2 hL, e2]
    rw [if_neg (by omega)]
    rfl
  | succ m ih =>
    intro i b mo o I hi hT
    have e2 : I 2 2 = (T.2.1 : Int) := hT.2.2.1
    obtain ⟨I1, q1, q2⟩ := zq_X_rightOf (X := X) (d := d) (sharp := (i : Int)) hL he ho hT
    have hT1 : zTC I1 2 T := zTC_row h14 (fun a _ ha => q2 a (by omega)) hT
    have him : i < 1000000 := by omega
    have hii : (i : Int) < (T.2.1 : Int) := by omega
    rw [zbl_s]
    by_cases c : mo < zri T e (i : Int)
    · obtain ⟨I', r1, r2⟩ := ih (i + 1) (i : Int) (zri T e (i : Int)) (some (.inr (.inl (zri T e (i : Int))))) I1 (by omega) hT1
      rw [if_pos c]
      refine ⟨I', ?_, fun a ha => (r2 a ha).trans (q2 a ha)⟩
      rw [zb_X_watch_40]
      simp only [if_true, if_false, Option.bind_some, Option.bind, Option.toList, List.cons_append, List.nil_append, zite0, zite1, zite01, znn, ite_not, true_or, or_true, true_and, and_true, zn10, zn00, zk_1 hL, zr_1_0 hL, zk_2 hL, e2, eq_true hii, q1, zb_X_watch_59, zcmp_gt, eq_true c]
      rw [zw32n him]
      exact r1
    · obtain ⟨I', r1, r2⟩ := ih (i + 1) b mo (some (.inr (.inl (zri T e (i : Int))))) I1 (by omega) hT1
      rw [if_neg c]
      refine ⟨I', ?_, fun a ha => (r2 a ha).trans (q2 a ha)⟩
      rw [zb_X_watch_40]
      simp only [if_true, if_false, Option.bind_some, Option.bind, Option.toList, List.cons_append, List.nil_append, zite0, zite1, zite01, znn, ite_not, true_or, or_true, true_and, and_true, zn10, zn00, zk_1 hL, zr_1_0 hL, zk_2 hL, e2, eq_true hii, q1, zb_X_watch_59, zcmp_gt, eq_false c]
      rw [zw32n him]
      exact r1
theorem zx_watch (hL : zLay L) (ho : zSOK n S) {e : Int} : zHX X L (d + 7) 86 [.inl e] S (zr_watch S e) := by
  intro I hr
  have e2 : I 2 2 = (S.1.2.1 : Int) := hr.1.2.2.1
  have hb := zq_X_isEye (X := X) (d := d + 4) (σ := (I, L)) (v := e)
  unfold zr_watch
  by_cases he : 0 ≤ e ∧ e ≤ 3
  · rw [if_pos he] at hb ⊢
    obtain ⟨e, rfl⟩ := Int.eq_ofNat_of_zero_le he.1
    rw [Int.toNat_natCast]
    by_cases hk : 0 < S.1.2.1
    · rw [if_pos hk]
      obtain ⟨N, hN⟩ := Nat.exists_eq_succ_of_ne_zero (show S.1.2.1 ≠ 0 by omega)
      have hN : S.1.2.1 = N + 1 := hN
      obtain ⟨I', q1, q2⟩ := zx_watch_l (X := X) (d := d) hL (show e < 4 by omega) ho.1 hN (N + 1) 0 0 (-1) none I (by omega) hr.1
      have h0 := (zri_ok (sharp := ((0 : Nat) : Int)) ho.1 (show e < 4 by omega)).1
      have hk0 : (0 : Int) < ((N + 1 : Nat) : Int) := by omega
      rw [zbl_s, if_pos (by omega)] at q1
      rw [hN] at e2 ⊢
      refine ⟨I', ?_, zRX_scr ho (fun a ha => q2 a (by omega)) hr, fun a ha => q2 a (by omega)⟩
      refine ((zcal_go zp_X_watch rfl).trans zb_X_watch_0).trans ?_
      simp only [if_true, if_false, Option.bind_some, Option.bind, Option.toList, List.cons_append, List.nil_append, zite0, zite1, zite01, znn, ite_not, true_or, or_true, true_and, and_true, zn10, zn00, zk_1 hL, zr_1_0 hL, zk_2 hL, hb, zb_X_watch_4, e2, eq_true hk0]
      exact q1
    · rw [if_neg hk]
      obtain ⟨J, h1, h2, h3⟩ := zX_tellc (X := X) (d := d + 5) (k := 3) (c := -1000004) hL ho (by omega) (by omega) hr
      refine ⟨J, ?_, h2, h3⟩
      refine ((zcal_go zp_X_watch rfl).trans zb_X_watch_0).trans ?_
      simp only [if_true, if_false, Option.bind_some, Option.bind, Option.toList, List.cons_append, List.nil_append, zite0, zite1, zite01, znn, ite_not, true_or, or_true, true_and, and_true, zn10, zn00, zk_1 hL, zr_1_0 hL, zk_2 hL, hb, zb_X_watch_4, e2, eq_false (show ¬ (0 : Int) < (S.1.2.1 : Int) by omega), h1, zb_X_watch_30]
  · rw [if_neg he] at hb ⊢
    obtain ⟨J, h1, h2, h3⟩ := zX_tellc (X := X) (d := d + 5) (k := 0) (c := -1000001) hL ho (by omega) (by omega) hr
    refine ⟨J, ?_, h2, h3⟩
    refine ((zcal_go zp_X_watch rfl).trans zb_X_watch_0).trans ?_
    simp only [if_true, if_false, Option.bind_some, Option.bind, Option.toList, List.cons_append, List.nil_append, zite0, zite1, zite01, znn, ite_not, true_or, or_true, true_and, and_true, zn10, zn00, zk_1 hL, zr_1_0 hL, zk_2 hL, hb, zb_X_watch_4, h1, zb_X_watch_13]
theorem zm_watch2_l (hL : zLay L) {e N : Nat} (he : e < 4) (ho : zTOK n T) (hN : T.2.1 = N) : ∀ (m i : Nat) (b : Nat) (mo : Int) (o : Option zV) (I : Nat → Nat → Int), i + m = N → zTM I 136 T → ∃ I', zgo X (zcal X zP (d + 5)) zc_M_watch 20 [some (.inr (.inr (.inl 135))), some (.inl (e : Int)), some (.inl (b : Int)), some (.inr (.inl mo)), none, some (.inl (i : Int)), o, none] [] (I, L) = some (some (.inl (zbl (fun i => zri T e (i : Int)) m i (b : Int) mo)), (I', L)) ∧ ∀ a, a ≠ 141 → a ≠ 142 → I' a = I a := by
  have h14 := ho.2.2.2.2.1
  intro m
  induction m with
  | zero =>
    intro i b mo o I hi hT
    have e2 : I 136 1 = (T.2.1 : Int) := hT.2.1
    refine ⟨I, ?_, fun _ _ _ => rfl⟩
    rw [zb_M_watch_20]
    simp only [if_true, if_false, Option.bind_some, Option.bind, Option.toList, List.cons_append, List.nil_append, zite0, zite1, zite01, znn, ite_not, true_or, or_true, true_and, and_true, zn10, zn00, zk_135 hL, zr_135_0 hL, z6_0 hL, z6_1 hL, z6_2 hL, z6_3 hL, z6_4 hL, e2]
    rw [if_neg (by omega), if_neg (by omega)]
    rfl
  | succ m ih =>
    intro i b mo o I hi hT
    have e2 : I 136 1 = (T.2.1 : Int) := hT.2.1
    obtain ⟨I1, q1, q2⟩ := zq_M_rightOf (X := X) (d := d) (sharp := (i : Int)) hL he ho hT
    have hT1 : zTM I1 136 T := zTM_row (q2 136 (by omega) (by omega)) hT
    have him : i < 1000000 := by omega
    have hii : (i : Int) < (T.2.1 : Int) := by omega
    have hb0 : ¬ (b : Int) < 0 := by omega
    rw [zbl_s]
    by_cases c : mo < zri T e (i : Int)
    · obtain ⟨I', r1, r2⟩ := ih (i + 1) i (zri T e (i : Int)) (some (.inr (.inl (zri T e (i : Int))))) I1 (by omega) hT1
      rw [if_pos c]
      refine ⟨I', ?_, fun a h1 h2 => (r2 a h1 h2).trans (q2 a h1 h2)⟩
      rw [zb_M_watch_20]
      simp only [if_true, if_false, Option.bind_some, Option.bind, Option.toList, List.cons_append, List.nil_append, zite0, zite1, zite01, znn, ite_not, true_or, or_true, true_and, and_true, zn10, zn00, zk_135 hL, zr_135_0 hL, z6_0 hL, z6_1 hL, z6_2 hL, z6_3 hL, z6_4 hL, e2, eq_true hii, q1, zb_M_watch_38, zcmp_gt, eq_false hb0, eq_true c]
      rw [zw32n him]
      exact r1
    · obtain ⟨I', r1, r2⟩ := ih (i + 1) b mo (some (.inr (.inl (zri T e (i : Int))))) I1 (by omega) hT1
      rw [if_neg c]
      refine ⟨I', ?_, fun a h1 h2 => (r2 a h1 h2).trans (q2 a h1 h2)⟩
      rw [zb_M_watch_20]
      simp only [if_true, if_false, Option.bind_some, Option.bind, Option.toList, List.cons_append, List.nil_append, zite0, zite1, zite01, znn, ite_not, true_or, or_true, true_and, and_true, zn10, zn00, zk_135 hL, zr_135_0 hL, z6_0 hL, z6_1 hL, z6_2 hL, z6_3 hL, z6_4 hL, e2, eq_true hii, q1, zb_M_watch_38, zcmp_gt, eq_false hb0, eq_false c]
      rw [zw32n him]
      exact r1
theorem zm_watch (hL : zLay L) (ho : zSOK n S) {e : Int} : zHM X L (d + 6) 178 [.inl e] S (zr_watch S e) := by
  intro I hr
  have e2 : I 136 1 = (S.1.2.1 : Int) := hr.1.2.1
  have hb := zq_M_isFour (X := X) (d := d + 3) (σ := (I, L)) (v := e)
  unfold zr_watch
  by_cases he : 0 ≤ e ∧ e ≤ 3
  · rw [if_pos he] at hb ⊢
    obtain ⟨e, rfl⟩ := Int.eq_ofNat_of_zero_le he.1
    rw [Int.toNat_natCast]
    have key : zcal X zP (d + 6) 178 [.inr (.inr (.inl 135)), .inl (e : Int)] (I, L) = zgo X (zcal X zP (d + 5)) zc_M_watch 20 [some (.inr (.inr (.inl 135))), some (.inl (e : Int)), some (.inl (-1)), some (.inr (.inl 0)), none, some (.inl 0), none, none] [] (I, L) := by
      refine ((zcal_go zp_M_watch rfl).trans zb_M_watch_0).trans ?_
      simp only [if_true, if_false, Option.bind_some, Option.bind, Option.toList, List.cons_append, List.nil_append, zite0, zite1, zite01, znn, ite_not, true_or, or_true, true_and, and_true, zn10, zn00, zk_135 hL, zr_135_0 hL, z6_0 hL, z6_1 hL, z6_2 hL, z6_3 hL, z6_4 hL, hb, zb_M_watch_4]
    by_cases hk : 0 < S.1.2.1
    · rw [if_pos hk]
      obtain ⟨N, hN⟩ := Nat.exists_eq_succ_of_ne_zero (show S.1.2.1 ≠ 0 by omega)
      have hN : S.1.2.1 = N + 1 := hN
      obtain ⟨I1, q1, q2⟩ := zq_M_rightOf (X := X) (d := d) (sharp := ((0 : Nat) : Int)) hL (show e < 4 by omega) ho.1 hr.1
      have hr1 := zRM_scr (fun a _ ha => q2 a (by omega) (by omega)) hr
      obtain ⟨I', r1, r2⟩ := zm_watch2_l (X := X) (d := d) hL (show e < 4 by omega) ho.1 hN N 1 0 (zri S.1 e ((0 : Nat) : Int)) (some (.inr (.inl (zri S.1 e ((0 : Nat) : Int))))) I1 (by omega) hr1.1
      have hk0 : (0 : Int) < ((N + 1 : Nat) : Int) := by omega
      rw [hN] at e2 ⊢
      refine ⟨I', key.trans ?_, zRM_scr (fun a _ ha => (r2 a (by omega) (by omega)).trans (q2 a (by omega) (by omega))) hr, fun a ha => (r2 a (by omega) (by omega)).trans (q2 a (by omega) (by omega))⟩
      have q1 : zcal X zP (d + 5) 173 [.inr (.inr (.inl 135)), .inl (e : Int), .inl 0] (I, L) = some (some (.inr (.inl (zri S.1 e ((0 : Nat) : Int)))), (I1, L)) := q1
      have e01 : w32 (0 + 1) = 1 := by decide
      rw [zb_M_watch_20]
      simp only [if_true, if_false, Option.bind_some, Option.bind, Option.toList, List.cons_append, List.nil_append, zite0, zite1, zite01, znn, ite_not, true_or, or_true, true_and, and_true, zn10, zn00, zk_135 hL, zr_135_0 hL, z6_0 hL, z6_1 hL, z6_2 hL, z6_3 hL, z6_4 hL, e2, eq_true hk0, q1, zb_M_watch_38, znm1, e01]
      exact r1
    · rw [if_neg hk]
      obtain ⟨J, h1, h2, h3⟩ := zM_findsc (X := X) (d := d + 4) (k := 3) (c := -1000004) (k' := 3) hL ho (by omega) (by omega) (by omega) hr
      refine ⟨J, key.trans ?_, h2, h3⟩
      rw [zb_M_watch_20]
      simp only [if_true, if_false, Option.bind_some, Option.bind, Option.toList, List.cons_append, List.nil_append, zite0, zite1, zite01, znn, ite_not, true_or, or_true, true_and, and_true, zn10, zn00, zk_135 hL, zr_135_0 hL, z6_0 hL, z6_1 hL, z6_2 hL, z6_3 hL, z6_4 hL, e2, eq_false (show ¬ (0 : Int) < (S.1.2.1 : Int) by omega), znm1, h1, zb_M_watch_72]
  · rw [if_neg he] at hb ⊢
    obtain ⟨J, h1, h2, h3⟩ := zM_findsc (X := X) (d := d + 4) (k := 0) (c := -1000001) (k' := 0) hL ho (by omega) (by omega) (by omega) hr
    refine ⟨J, ?_, h2, h3⟩
    refine ((zcal_go zp_M_watch rfl).trans zb_M_watch_0).trans ?_
    simp only [if_true, if_false, Option.bind_some, Option.bind, Option.toList, List.cons_append, List.nil_append, zite0, zite1, zite01, znn, ite_not, true_or, or_true, true_and, and_true, zn10, zn00, zk_135 hL, zr_135_0 hL, z6_0 hL, z6_1 hL, z6_2 hL, z6_3 hL, z6_4 hL, hb, zb_M_watch_4, h1, zb_M_watch_12]
theorem zo_watch (ho : zSOK n S) (hn : n < 100000) {e : Int} : zSOK (n + 1) (zr_watch S e).2 := by
  unfold zr_watch
  exact zif2 (fun _ => zif2 (fun _ => zSOK_up ho hn) (fun _ => zSOK_f ho (by omega) hn)) (fun _ => zSOK_f ho (by omega) hn)
theorem zA16 (hL : zLay L) : zA_16 X L := fun n a1 _ S ho hn => zCI (zr_watch S a1) (by unfold zr_watch; repeat' (first | exact ⟨_, rfl⟩ | refine zif1 ?_ ?_)) (zx_watch (d := 33) hL ho) (zm_watch (d := 34) hL ho) (zo_watch ho hn)
/-- the weight where the pea is, if a pass were of another kind -/
def zrk (T : zTb) (e p : Nat) (k : Int) : Int := zri (zTkind T p k) e (-1)
theorem zq_X_rightIf (hL : zLay L) {e p : Nat} {k : Int} (he : e < 4) (hp : p < T.2.1) (hk : 0 ≤ k ∧ k ≤ 6) (ho : zTOK n T) (hT : zTC I 2 T) : ∃ I', zcal X zP (d + 7) 123 [.inr (.inr (.inl 1)), .inl (e : Int), .inl (p : Int), .inl k] (I, L) = some (some (.inr (.inl (zrk T e p k))), (I', L)) ∧ (∀ a j, (a < 83 ∨ 100 ≤ a) → I' a j = I a j) := by
  have h14 := ho.2.2.2.2.1
  obtain ⟨l3, l4⟩ := zp14 hL (show p < 14 by omega)
  have hT1 := zTC_kind (t := 2) (v := k) h14 hp hT
  obtain ⟨I1, q1, q2⟩ := zq_X_rightOf (X := X) (d := d) (sharp := -1) hL he (zTOK_kind (i := p) hk ho) hT1
  have hz : ∀ a j, (a < 83 ∨ 100 ≤ a) → zwI I1 (7 + p) 0 (I (7 + p) 0) a j = I a j := by
    intro a j ha
    rw [zwI_if]
    by_cases c : a = 7 + p ∧ j = 0
    · rw [if_pos c, c.1, c.2]
    · have e1 : I1 a j = zwI I (2 + 5 + p) 0 k a j := congrFun (q2 a ha) j
      rw [if_neg c, e1, zwI_if, if_neg (by omega)]
  refine ⟨_, ?_, hz⟩
  refine ((zcal_go zp_X_rightIf rfl).trans zb_X_rightIf_0).trans ?_
  simp only [if_true, if_false, Option.bind_some, Option.bind, Option.toList, List.cons_append, List.nil_append, zite0, zite1, zite01, znn, ite_not, true_or, or_true, true_and, and_true, zn10, zn00, zk_1 hL, zr_1_0 hL, zk_2 hL, zr_2_5 hL, zc3 hL (show p < 14 by omega), Int.toNat_natCast, l3, l4, zw_I]
  have q1 : zcal X zP (d + 6) 122 [.inr (.inr (.inl 1)), .inl (e : Int), .inl (-1)] (zwI I (7 + p) 0 k, L) = _ := q1
  simp only [if_true, if_false, Option.bind_some, Option.bind, Option.toList, List.cons_append, List.nil_append, zite0, zite1, zite01, znn, ite_not, true_or, or_true, true_and, and_true, zn10, zn00, q1, zb_X_rightIf_33, zk_1 hL, zr_1_0 hL, zk_2 hL, zr_2_5 hL, zc3 hL (show p < 14 by omega), Int.toNat_natCast, l3, l4, zw_I]
  try rfl
theorem zq_M_rightAs (hL : zLay L) {e p : Nat} {k : Int} (he : e < 4) (hp : p < T.2.1) (hk : 0 ≤ k ∧ k ≤ 6) (ho : zTOK n T) (hT : zTM I 136 T) : ∃ I', zcal X zP (d + 6) 179 [.inr (.inr (.inl 135)), .inl (e : Int), .inl (p : Int), .inl k] (I, L) = some (some (.inr (.inl (zrk T e p k))), (I', L)) ∧ (∀ a j, a ≠ 141 → a ≠ 142 → I' a j = I a j) := by
  have h14 := ho.2.2.2.2.1
  have hT1 := zTM_kind (v := k) h14 hp hT
  obtain ⟨I1, q1, q2⟩ := zq_M_rightOf (X := X) (d := d) (sharp := -1) hL he (zTOK_kind (i := p) hk ho) hT1
  have hw : (T.2.2 p).1 = I 136 (5 + 3 * p) := (hT.2.2 p hp).1.symm
  have hz : ∀ a j, a ≠ 141 → a ≠ 142 → zwI I1 136 (5 + 3 * p) (I 136 (5 + 3 * p)) a j = I a j := by
    intro a j h1 h2
    rw [zwI_if]
    by_cases c : a = 136 ∧ j = 5 + 3 * p
    · rw [if_pos c, c.1, c.2]
    · have e1 : I1 a j = zwI I 136 (5 + 3 * p) k a j := congrFun (q2 a h1 h2) j
      rw [if_neg c, e1, zwI_if, if_neg c]
  refine ⟨_, ?_, hz⟩
  have hi := zq_M_its0 (X := X) (d := d + 4) hL hT ho hp
  rw [hw] at hi
  refine ((zcal_go zp_M_rightAs rfl).trans zb_M_rightAs_0).trans ?_
  simp only [if_true, if_false, Option.bind_some, Option.bind, Option.toList, List.cons_append, List.nil_append, zite0, zite1, zite01, znn, ite_not, true_or, or_true, true_and, and_true, zn10, zn00, zk_135 hL, zr_135_0 hL, z6_0 hL, z6_1 hL, z6_2 hL, z6_3 hL, z6_4 hL, hi, zb_M_rightAs_6, zi53 (show p < 200 by omega), zd136 hL (show 0 ≤ ((5 + 3 * p : Nat) : Int) ∧ ((5 + 3 * p : Nat) : Int) < 96 by omega), Int.toNat_natCast, zw_I, q1, zb_M_rightAs_25]
  try rfl
def zr_feint (S : zSt) (e : Int) : zV × zSt := if 0 ≤ e ∧ e ≤ 3 then (if 0 < S.1.2.1 then (.inl (zml (fun i => zrk S.1 e.toNat i 1) (S.1.2.1 - 1) 1 0 (zrk S.1 e.toNat 0 1)), S) else (.inl (-1000004), zSf S 3)) else (.inl (-1000001), zSf S 0)
theorem zcmp_ltz {x y : Int} : (zcmp x y < 0) = (x < y) := zcmp_lt
theorem zx_feint_l (hL : zLay L) {e N : Nat} (he : e < 4) (ho : zTOK n T) (hN : T.2.1 = N) : ∀ (m i : Nat) (b mo : Int) (o : Option zV) (I : Nat → Nat → Int), i + m = N → zTC I 2 T → ∃ I', zgo X (zcal X zP (d + 7)) zc_X_feint 40 [some (.inr (.inr (.inl 1))), some (.inl (e : Int)), some (.inl b), some (.inr (.inl mo)), none, some (.inl (i : Int)), o, none] [] (I, L) = some (some (.inl (zml (fun i => zrk T e i 1) m i b mo)), (I', L)) ∧ ∀ a j, (a < 83 ∨ 100 ≤ a) → I' a j = I a j := by
  have h14 := ho.2.2.2.2.1
  intro m
  induction m with
  | zero =>
    intro i b mo o I hi hT
    have e2 : I 2 2 = (T.2.1 : Int) := hT.2.2.1
    refine ⟨I, ?_, fun _ _ _ => rfl⟩
    rw [zb_X_feint_40]
    simp only [if_true, if_false, Option.bind_some, Option.bind, Option.toList, List.cons_append, List.nil_append, zite0, zite1, zite01, znn, ite_not, true_or, or_true, true_and, and_true, zn10, zn00, zk_1 hL, zr_1_0 hL, zk_2 hL, e2]
    rw [if_neg (by omega)]
    rfl
  | succ m ih =>
    intro i b mo o I hi hT
    have e2 : I 2 2 = (T.2.1 : Int) := hT.2.2.1
    obtain ⟨I1, q1, q2⟩ := zq_X_rightIf (X := X) (d := d) (k := 1) hL he (show i < T.2.1 by omega) (by omega) ho hT
    have hT1 : zTC I1 2 T := zTC_row h14 (fun a _ ha => funext fun j => q2 a j (by omega)) hT
    have him : i < 1000000 := by omega
    have hii : (i : Int) < (T.2.1 : Int) := by omega
    rw [zml_s]
    by_cases c : zrk T e i 1 < mo
    · obtain ⟨I', r1, r2⟩ := ih (i + 1) (i : Int) (zrk T e i 1) (some (.inr (.inl (zrk T e i 1)))) I1 (by omega) hT1
      rw [if_pos c]
      refine ⟨I', ?_, fun a j ha => (r2 a j ha).trans (q2 a j ha)⟩
      rw [zb_X_feint_40]
      simp only [if_true, if_false, Option.bind_some, Option.bind, Option.toList, List.cons_append, List.nil_append, zite0, zite1, zite01, znn, ite_not, true_or, or_true, true_and, and_true, zn10, zn00, zk_1 hL, zr_1_0 hL, zk_2 hL, e2, eq_true hii, q1, zb_X_feint_60, zcmp_lt, eq_true c]
      rw [zw32n him]
      exact r1
    · obtain ⟨I', r1, r2⟩ := ih (i + 1) b mo (some (.inr (.inl (zrk T e i 1)))) I1 (by omega) hT1
      rw [if_neg c]
      refine ⟨I', ?_, fun a j ha => (r2 a j ha).trans (q2 a j ha)⟩
      rw [zb_X_feint_40]
      simp only [if_true, if_false, Option.bind_some, Option.bind, Option.toList, List.cons_append, List.nil_append, zite0, zite1, zite01, znn, ite_not, true_or, or_true, true_and, and_true, zn10, zn00, zk_1 hL, zr_1_0 hL, zk_2 hL, e2, eq_true hii, q1, zb_X_feint_60, zcmp_lt, eq_false c]
      rw [zw32n him]
      exact r1
theorem zx_feint (hL : zLay L) (ho : zSOK n S) {e : Int} : zHX X L (d + 8) 87 [.inl e] S (zr_feint S e) := by
  intro I hr
  have e2 : I 2 2 = (S.1.2.1 : Int) := hr.1.2.2.1
  have hb := zq_X_isEye (X := X) (d := d + 5) (σ := (I, L)) (v := e)
  unfold zr_feint
  by_cases he : 0 ≤ e ∧ e ≤ 3
  · rw [if_pos he] at hb ⊢
    obtain ⟨e, rfl⟩ := Int.eq_ofNat_of_zero_le he.1
    rw [Int.toNat_natCast]
    by_cases hk : 0 < S.1.2.1
    · rw [if_pos hk]
      obtain ⟨N, hN⟩ := Nat.exists_eq_succ_of_ne_zero (show S.1.2.1 ≠ 0 by omega)
      have hN : S.1.2.1 = N + 1 := hN
      obtain ⟨I', q1, q2⟩ := zx_feint_l (X := X) (d := d) hL (show e < 4 by omega) ho.1 hN (N + 1) 0 0 1000000000000000 none I (by omega) hr.1
      have h0 := (zri_ok (sharp := -1) (zTOK_kind (i := 0) (v := 1) (by omega) ho.1) (show e < 4 by omega)).2
      have h0 : zrk S.1 e 0 1 < 1000000000000000 := Int.lt_of_le_of_lt h0 (by decide)
      have hk0 : (0 : Int) < ((N + 1 : Nat) : Int) := by omega
      rw [zml_s, if_pos h0] at q1
      rw [hN] at e2 ⊢
      refine ⟨I', ?_, zRX_scr ho (fun a ha => funext fun j => q2 a j (by omega)) hr, fun a ha => funext fun j => q2 a j (by omega)⟩
      refine ((zcal_go zp_X_feint rfl).trans zb_X_feint_0).trans ?_
      simp only [if_true, if_false, Option.bind_some, Option.bind, Option.toList, List.cons_append, List.nil_append, zite0, zite1, zite01, znn, ite_not, true_or, or_true, true_and, and_true, zn10, zn00, zk_1 hL, zr_1_0 hL, zk_2 hL, hb, zb_X_feint_4, e2, eq_true hk0]
      exact q1
    · rw [if_neg hk]
      obtain ⟨J, h1, h2, h3⟩ := zX_tellc (X := X) (d := d + 6) (k := 3) (c := -1000004) hL ho (by omega) (by omega) hr
      refine ⟨J, ?_, h2, h3⟩
      refine ((zcal_go zp_X_feint rfl).trans zb_X_feint_0).trans ?_
      simp only [if_true, if_false, Option.bind_some, Option.bind, Option.toList, List.cons_append, List.nil_append, zite0, zite1, zite01, znn, ite_not, true_or, or_true, true_and, and_true, zn10, zn00, zk_1 hL, zr_1_0 hL, zk_2 hL, hb, zb_X_feint_4, e2, eq_false (show ¬ (0 : Int) < (S.1.2.1 : Int) by omega), h1, zb_X_feint_30]
  · rw [if_neg he] at hb ⊢
    obtain ⟨J, h1, h2, h3⟩ := zX_tellc (X := X) (d := d + 6) (k := 0) (c := -1000001) hL ho (by omega) (by omega) hr
    refine ⟨J, ?_, h2, h3⟩
    refine ((zcal_go zp_X_feint rfl).trans zb_X_feint_0).trans ?_
    simp only [if_true, if_false, Option.bind_some, Option.bind, Option.toList, List.cons_append, List.nil_append, zite0, zite1, zite01, znn, ite_not, true_or, or_true, true_and, and_true, zn10, zn00, zk_1 hL, zr_1_0 hL, zk_2 hL, hb, zb_X_feint_4, h1, zb_X_feint_13]
theorem zm_feint_l (hL : zLay L) {e N : Nat} (he : e < 4) (ho : zTOK n T) (hN : T.2.1 = N) : ∀ (m i : Nat) (b : Nat) (mo : Int) (o : Option zV) (I : Nat → Nat → Int), i + m = N → zTM I 136 T → ∃ I', zgo X (zcal X zP (d + 6)) zc_M_feint 20 [some (.inr (.inr (.inl 135))), some (.inl (e : Int)), some (.inl (b : Int)), some (.inr (.inl mo)), none, some (.inl (i : Int)), o, none] [] (I, L) = some (some (.inl (zml (fun i => zrk T e i 1) m i (b : Int) mo)), (I', L)) ∧ ∀ a j, a ≠ 141 → a ≠ 142 → I' a j = I a j := by
  have h14 := ho.2.2.2.2.1
  intro m
  induction m with
  | zero =>
    intro i b mo o I hi hT
    have e2 : I 136 1 = (T.2.1 : Int) := hT.2.1
    refine ⟨I, ?_, fun _ _ _ _ => rfl⟩
    rw [zb_M_feint_20]
    simp only [if_true, if_false, Option.bind_some, Option.bind, Option.toList, List.cons_append, List.nil_append, zite0, zite1, zite01, znn, ite_not, true_or, or_true, true_and, and_true, zn10, zn00, zk_135 hL, zr_135_0 hL, z6_0 hL, z6_1 hL, z6_2 hL, z6_3 hL, z6_4 hL, e2]
    rw [if_neg (by omega), if_neg (by omega)]
    rfl
  | succ m ih =>
    intro i b mo o I hi hT
    have e2 : I 136 1 = (T.2.1 : Int) := hT.2.1
    obtain ⟨I1, q1, q2⟩ := zq_M_rightAs (X := X) (d := d) (k := 1) hL he (show i < T.2.1 by omega) (by omega) ho hT
    have hT1 : zTM I1 136 T := zTM_row (funext fun j => q2 136 j (by omega) (by omega)) hT
    have him : i < 1000000 := by omega
    have hii : (i : Int) < (T.2.1 : Int) := by omega
    have hb0 : ¬ (b : Int) < 0 := by omega
    rw [zml_s]
    by_cases c : zrk T e i 1 < mo
    · obtain ⟨I', r1, r2⟩ := ih (i + 1) i (zrk T e i 1) (some (.inr (.inl (zrk T e i 1)))) I1 (by omega) hT1
      rw [if_pos c]
      refine ⟨I', ?_, fun a j h1 h2 => (r2 a j h1 h2).trans (q2 a j h1 h2)⟩
      rw [zb_M_feint_20]
      simp only [if_true, if_false, Option.bind_some, Option.bind, Option.toList, List.cons_append, List.nil_append, zite0, zite1, zite01, znn, ite_not, true_or, or_true, true_and, and_true, zn10, zn00, zk_135 hL, zr_135_0 hL, z6_0 hL, z6_1 hL, z6_2 hL, z6_3 hL, z6_4 hL, e2, eq_true hii, q1, zb_M_feint_39, zcmp_lt, eq_false hb0, eq_true c]
      rw [zw32n him]
      exact r1
    · obtain ⟨I', r1, r2⟩ := ih (i + 1) b mo (some (.inr (.inl (zrk T e i 1)))) I1 (by omega) hT1
      rw [if_neg c]
      refine ⟨I', ?_, fun a j h1 h2 => (r2 a j h1 h2).trans (q2 a j h1 h2)⟩
      rw [zb_M_feint_20]
      simp only [if_true, if_false, Option.bind_some, Option.bind, Option.toList, List.cons_append, List.nil_append, zite0, zite1, zite01, znn, ite_not, true_or, or_true, true_and, and_true, zn10, zn00, zk_135 hL, zr_135_0 hL, z6_0 hL, z6_1 hL, z6_2 hL, z6_3 hL, z6_4 hL, e2, eq_true hii, q1, zb_M_feint_39, zcmp_lt, eq_false hb0, eq_false c]
      rw [zw32n him]
      exact r1
theorem zm_feint (hL : zLay L) (ho : zSOK n S) {e : Int} : zHM X L (d + 7) 180 [.inl e] S (zr_feint S e) := by
  intro I hr
  have e2 : I 136 1 = (S.1.2.1 : Int) := hr.1.2.1
  have hb := zq_M_isFour (X := X) (d := d + 4) (σ := (I, L)) (v := e)
  unfold zr_feint
  by_cases he : 0 ≤ e ∧ e ≤ 3
  · rw [if_pos he] at hb ⊢
    obtain ⟨e, rfl⟩ := Int.eq_ofNat_of_zero_le he.1
    rw [Int.toNat_natCast]
    have key : zcal X zP (d + 7) 180 [.inr (.inr (.inl 135)), .inl (e : Int)] (I, L) = zgo X (zcal X zP (d + 6)) zc_M_feint 20 [some (.inr (.inr (.inl 135))), some (.inl (e : Int)), some (.inl (-1)), some (.inr (.inl 0)), none, some (.inl 0), none, none] [] (I, L) := by
      refine ((zcal_go zp_M_feint rfl).trans zb_M_feint_0).trans ?_
      simp only [if_true, if_false, Option.bind_some, Option.bind, Option.toList, List.cons_append, List.nil_append, zite0, zite1, zite01, znn, ite_not, true_or, or_true, true_and, and_true, zn10, zn00, zk_135 hL, zr_135_0 hL, z6_0 hL, z6_1 hL, z6_2 hL, z6_3 hL, z6_4 hL, hb, zb_M_feint_4]
    by_cases hk : 0 < S.1.2.1
    · rw [if_pos hk]
      obtain ⟨N, hN⟩ := Nat.exists_eq_succ_of_ne_zero (show S.1.2.1 ≠ 0 by omega)
      have hN : S.1.2.1 = N + 1 := hN
      obtain ⟨I1, q1, q2⟩ := zq_M_rightAs (X := X) (d := d) (p := 0) (k := 1) hL (show e < 4 by omega) hk (by omega) ho.1 hr.1
      have hr1 := zRM_scr (fun a _ ha => funext fun j => q2 a j (by omega) (by omega)) hr
      obtain ⟨I', r1, r2⟩ := zm_feint_l (X := X) (d := d) hL (show e < 4 by omega) ho.1 hN N 1 0 (zrk S.1 e 0 1) (some (.inr (.inl (zrk S.1 e 0 1)))) I1 (by omega) hr1.1
      have hk0 : (0 : Int) < ((N + 1 : Nat) : Int) := by omega
      rw [hN] at e2 ⊢
      refine ⟨I', key.trans ?_, zRM_scr (fun a _ ha => funext fun j => (r2 a j (by omega) (by omega)).trans (q2 a j (by omega) (by omega))) hr, fun a ha => funext fun j => (r2 a j (by omega) (by omega)).trans (q2 a j (by omega) (by omega))⟩
      have q1 : zcal X zP (d + 6) 179 [.inr (.inr (.inl 135)), .inl (e : Int), .inl 0, .inl 1] (I, L) = some (some (.inr (.inl (zrk S.1 e 0 1))), (I1, L)) := q1
      have e01 : w32 (0 + 1) = 1 := by decide
      rw [zb_M_feint_20]
      simp only [if_true, if_false, Option.bind_some, Option.bind, Option.toList, List.cons_append, List.nil_append, zite0, zite1, zite01, znn, ite_not, true_or, or_true, true_and, and_true, zn10, zn00, zk_135 hL, zr_135_0 hL, z6_0 hL, z6_1 hL, z6_2 hL, z6_3 hL, z6_4 hL, e2, eq_true hk0, q1, zb_M_feint_39, znm1, e01]
      exact r1
    · rw [if_neg hk]
      obtain ⟨J, h1, h2, h3⟩ := zM_findsc (X := X) (d := d + 5) (k := 3) (c := -1000004) (k' := 3) hL ho (by omega) (by omega) (by omega) hr
      refine ⟨J, key.trans ?_, h2, h3⟩
      rw [zb_M_feint_20]
      simp only [if_true, if_false, Option.bind_some, Option.bind, Option.toList, List.cons_append, List.nil_append, zite0, zite1, zite01, znn, ite_not, true_or, or_true, true_and, and_true, zn10, zn00, zk_135 hL, zr_135_0 hL, z6_0 hL, z6_1 hL, z6_2 hL, z6_3 hL, z6_4 hL, e2, eq_false (show ¬ (0 : Int) < (S.1.2.1 : Int) by omega), znm1, h1, zb_M_feint_73]
  · rw [if_neg he] at hb ⊢
    obtain ⟨J, h1, h2, h3⟩ := zM_findsc (X := X) (d := d + 5) (k := 0) (c := -1000001) (k' := 0) hL ho (by omega) (by omega) (by omega) hr
    refine ⟨J, ?_, h2, h3⟩
    refine ((zcal_go zp_M_feint rfl).trans zb_M_feint_0).trans ?_
    simp only [if_true, if_false, Option.bind_some, Option.bind, Option.toList, List.cons_append, List.nil_append, zite0, zite1, zite01, znn, ite_not, true_or, or_true, true_and, and_true, zn10, zn00, zk_135 hL, zr_135_0 hL, z6_0 hL, z6_1 hL, z6_2 hL, z6_3 hL, z6_4 hL, hb, zb_M_feint_4, h1, zb_M_feint_12]
theorem zo_feint (ho : zSOK n S) (hn : n < 100000) {e : Int} : zSOK (n + 1) (zr_feint S e).2 := by
  unfold zr_feint
  exact zif2 (fun _ => zif2 (fun _ => zSOK_up ho hn) (fun _ => zSOK_f ho (by omega) hn)) (fun _ => zSOK_f ho (by omega) hn)
theorem zA17 (hL : zLay L) : zA_17 X L := fun n a1 _ S ho hn => zCI (zr_feint S a1) (by unfold zr_feint; repeat' (first | exact ⟨_, rfl⟩ | refine zif1 ?_ ?_)) (zx_feint (d := 32) hL ho) (zm_feint (d := 33) hL ho) (zo_feint ho hn)
end
