/-! CONTRACTS OF CALLS: kindFor, play, both. -/
section
variable {X : zX} {C : zC} {d n : Nat} {L : zLt} {S : zSt} {T : zTb} {I : Nat → Nat → Int}
def zr_kindFor (S : zSt) (e p : Int) : zV × zSt := if (0 ≤ e ∧ e ≤ 3) ∧ (0 ≤ p ∧ p ≤ (S.1.2.1 : Int) - 1) then (.inl (zml (fun i => zrk S.1 e.toNat p.toNat (i : Int)) 6 1 0 (zrk S.1 e.toNat p.toNat ((0 : Nat) : Int))), S) else (.inl (-1000001), zSf S 0)
theorem zx_kindFor_l (hL : zLay L) {e p : Nat} (he : e < 4) (ho : zTOK n T) (hp : p < T.2.1) : ∀ (m i : Nat) (b mo : Int) (o : Option zV) (I : Nat → Nat → Int), i + m = 7 → zTC I 2 T → ∃ I', zgo X (zcal X zP (d + 7)) zc_X_kindFor 32 [some (.inr (.inr (.inl 1))), some (.inl (e : Int)), some (.inl (p : Int)), some (.inl b), some (.inr (.inl mo)), none, some (.inl (i : Int)), o, none] [] (I, L) = some (some (.inl (zml (fun i => zrk T e p (i : Int)) m i b mo)), (I', L)) ∧ ∀ a j, (a < 83 ∨ 100 ≤ a) → I' a j = I a j := by
  have h14 := ho.2.2.2.2.1
  intro m
  induction m with
  | zero =>
    intro i b mo o I hi hT
    refine ⟨I, ?_, fun _ _ _ => rfl⟩
    rw [zb_X_kindFor_32, if_neg (by omega)]
    rfl
  | succ m ih =>
    intro i b mo o I hi hT
    obtain ⟨I1, q1, q2⟩ := zq_X_rightIf (X := X) (d := d) (k := (i : Int)) hL he hp (by omega) ho hT
    have hT1 : zTC I1 2 T := zTC_row h14 (fun a _ ha => funext fun j => q2 a j (by omega)) hT
    have him : i < 1000000 := by omega
    have hii : (i : Int) < 7 := by omega
    rw [zml_s]
    by_cases c : zrk T e p (i : Int) < mo
    · obtain ⟨I', r1, r2⟩ := ih (i + 1) (i : Int) (zrk T e p (i : Int)) (some (.inr (.inl (zrk T e p (i : Int))))) I1 (by omega) hT1
      rw [if_pos c]
      refine ⟨I', ?_, fun a j ha => (r2 a j ha).trans (q2 a j ha)⟩
      rw [zb_X_kindFor_32, if_pos hii]
      simp only [if_true, if_false, Option.bind_some, Option.bind, Option.toList, List.cons_append, List.nil_append, zite0, zite1, zite01, znn, ite_not, true_or, or_true, true_and, and_true, zn10, zn00, zk_1 hL, zr_1_0 hL, zk_2 hL, q1, zb_X_kindFor_47, zcmp_lt, eq_true c]
      rw [zw32n him]
      exact r1
    · obtain ⟨I', r1, r2⟩ := ih (i + 1) b mo (some (.inr (.inl (zrk T e p (i : Int))))) I1 (by omega) hT1
      rw [if_neg c]
      refine ⟨I', ?_, fun a j ha => (r2 a j ha).trans (q2 a j ha)⟩
      rw [zb_X_kindFor_32, if_pos hii]
      simp only [if_true, if_false, Option.bind_some, Option.bind, Option.toList, List.cons_append, List.nil_append, zite0, zite1, zite01, znn, ite_not, true_or, or_true, true_and, and_true, zn10, zn00, zk_1 hL, zr_1_0 hL, zk_2 hL, q1, zb_X_kindFor_47, zcmp_lt, eq_false c]
      rw [zw32n him]
      exact r1
theorem zx_kindFor (hL : zLay L) (ho : zSOK n S) {e p : Int} : zHX X L (d + 8) 88 [.inl e, .inl p] S (zr_kindFor S e p) := by
  intro I hr
  have hb := zq_X_isEye (X := X) (d := d + 5) (σ := (I, L)) (v := e)
  have hc := zq_X_isPass (X := X) (d := d + 5) (v := p) hL hr.1 ho.1
  obtain ⟨J, h1, h2, h3⟩ := zX_tellc (X := X) (d := d + 6) (k := 0) (c := -1000001) hL ho (by omega) (by omega) hr
  unfold zr_kindFor
  by_cases he : 0 ≤ e ∧ e ≤ 3
  · rw [if_pos he] at hb
    by_cases hp : 0 ≤ p ∧ p ≤ (S.1.2.1 : Int) - 1
    · rw [if_pos hp] at hc
      rw [if_pos ⟨he, hp⟩]
      obtain ⟨e, rfl⟩ := Int.eq_ofNat_of_zero_le he.1
      obtain ⟨p, rfl⟩ := Int.eq_ofNat_of_zero_le hp.1
      rw [Int.toNat_natCast, Int.toNat_natCast]
      obtain ⟨I', q1, q2⟩ := zx_kindFor_l (X := X) (d := d) hL (show e < 4 by omega) ho.1 (show p < S.1.2.1 by omega) 7 0 0 1000000000000000 none I (by omega) hr.1
      have h0 := (zri_ok (sharp := -1) (zTOK_kind (i := p) (v := ((0 : Nat) : Int)) (by omega) ho.1) (show e < 4 by omega)).2
      have h0 : zrk S.1 e p ((0 : Nat) : Int) < 1000000000000000 := Int.lt_of_le_of_lt h0 (by decide)
      rw [zml_s, if_pos h0] at q1
      refine ⟨I', ?_, zRX_scr ho (fun a ha => funext fun j => q2 a j (by omega)) hr, fun a ha => funext fun j => q2 a j (by omega)⟩
      refine ((zcal_go zp_X_kindFor rfl).trans zb_X_kindFor_0).trans ?_
      simp only [if_true, if_false, Option.bind_some, Option.bind, Option.toList, List.cons_append, List.nil_append, zite0, zite1, zite01, znn, ite_not, true_or, or_true, true_and, and_true, zn10, zn00, zk_1 hL, zr_1_0 hL, zk_2 hL, hb, hc, zb_X_kindFor_4, zb_X_kindFor_12]
      exact q1
    · rw [if_neg hp] at hc
      rw [if_neg (fun h => hp h.2)]
      refine ⟨J, ?_, h2, h3⟩
      refine ((zcal_go zp_X_kindFor rfl).trans zb_X_kindFor_0).trans ?_
      simp only [if_true, if_false, Option.bind_some, Option.bind, Option.toList, List.cons_append, List.nil_append, zite0, zite1, zite01, znn, ite_not, true_or, or_true, true_and, and_true, zn10, zn00, zk_1 hL, zr_1_0 hL, zk_2 hL, hb, hc, zb_X_kindFor_4, zb_X_kindFor_12, h1, zb_X_kindFor_21]
  · rw [if_neg he] at hb
    rw [if_neg (fun h => he h.1)]
    refine ⟨J, ?_, h2, h3⟩
    refine ((zcal_go zp_X_kindFor rfl).trans zb_X_kindFor_0).trans ?_
    simp only [if_true, if_false, Option.bind_some, Option.bind, Option.toList, List.cons_append, List.nil_append, zite0, zite1, zite01, znn, ite_not, true_or, or_true, true_and, and_true, zn10, zn00, zk_1 hL, zr_1_0 hL, zk_2 hL, hb, zb_X_kindFor_4, h1, zb_X_kindFor_21]
theorem zm_kindFor_l (hL : zLay L) {e p : Nat} (he : e < 4) (ho : zTOK n T) (hp : p < T.2.1) : ∀ (m i : Nat) (b mo : Int) (o : Option zV) (I : Nat → Nat → Int), i + m = 7 → zTM I 136 T → ∃ I', zgo X (zcal X zP (d + 6)) zc_M_kindFor 35 [some (.inr (.inr (.inl 135))), some (.inl (e : Int)), some (.inl (p : Int)), some (.inl b), some (.inr (.inl mo)), none, some (.inl (i : Int)), o, none] [] (I, L) = some (some (.inl (zml (fun i => zrk T e p (i : Int)) m i b mo)), (I', L)) ∧ ∀ a j, a ≠ 141 → a ≠ 142 → I' a j = I a j := by
  have h14 := ho.2.2.2.2.1
  intro m
  induction m with
  | zero =>
    intro i b mo o I hi hT
    refine ⟨I, ?_, fun _ _ _ _ => rfl⟩
    rw [zb_M_kindFor_35, if_neg (by omega)]
    rfl
  | succ m ih =>
    intro i b mo o I hi hT
    obtain ⟨I1, q1, q2⟩ := zq_M_rightAs (X := X) (d := d) (k := (i : Int)) hL he hp (by omega) ho hT
    have hT1 : zTM I1 136 T := zTM_row (funext fun j => q2 136 j (by omega) (by omega)) hT
    have him : i < 1000000 := by omega
    have hii : (i : Int) < 7 := by omega
    rw [zml_s]
    by_cases c : zrk T e p (i : Int) < mo
    · obtain ⟨I', r1, r2⟩ := ih (i + 1) (i : Int) (zrk T e p (i : Int)) (some (.inr (.inl (zrk T e p (i : Int))))) I1 (by omega) hT1
      rw [if_pos c]
      refine ⟨I', ?_, fun a j h1 h2 => (r2 a j h1 h2).trans (q2 a j h1 h2)⟩
      rw [zb_M_kindFor_35, if_pos hii]
      simp only [if_true, if_false, Option.bind_some, Option.bind, Option.toList, List.cons_append, List.nil_append, zite0, zite1, zite01, znn, ite_not, true_or, or_true, true_and, and_true, zn10, zn00, zk_135 hL, zr_135_0 hL, z6_0 hL, z6_1 hL, z6_2 hL, z6_3 hL, z6_4 hL, q1, zb_M_kindFor_50, zcmp_lt, eq_true c]
      rw [zw32n him]
      exact r1
    · obtain ⟨I', r1, r2⟩ := ih (i + 1) b mo (some (.inr (.inl (zrk T e p (i : Int))))) I1 (by omega) hT1
      rw [if_neg c]
      refine ⟨I', ?_, fun a j h1 h2 => (r2 a j h1 h2).trans (q2 a j h1 h2)⟩
      rw [zb_M_kindFor_35, if_pos hii]
      simp only [if_true, if_false, Option.bind_some, Option.bind, Option.toList, List.cons_append, List.nil_append, zite0, zite1, zite01, znn, ite_not, true_or, or_true, true_and, and_true, zn10, zn00, zk_135 hL, zr_135_0 hL, z6_0 hL, z6_1 hL, z6_2 hL, z6_3 hL, z6_4 hL, q1, zb_M_kindFor_50, zcmp_lt, eq_false c]
      rw [zw32n him]
      exact r1
theorem zm_kindFor (hL : zLay L) (ho : zSOK n S) {e p : Int} : zHM X L (d + 7) 181 [.inl e, .inl p] S (zr_kindFor S e p) := by
  intro I hr
  have hb := zq_M_isFour (X := X) (d := d + 4) (σ := (I, L)) (v := e)
  have hc := zq_M_isPass (X := X) (d := d + 4) (v := p) hL hr.1 ho.1
  obtain ⟨J, h1, h2, h3⟩ := zM_findsc (X := X) (d := d + 5) (k := 0) (c := -1000001) (k' := 0) hL ho (by omega) (by omega) (by omega) hr
  unfold zr_kindFor
  by_cases he : 0 ≤ e ∧ e ≤ 3
  · rw [if_pos he] at hb
    by_cases hp : 0 ≤ p ∧ p ≤ (S.1.2.1 : Int) - 1
    · rw [if_pos hp] at hc
      rw [if_pos ⟨he, hp⟩]
      obtain ⟨e, rfl⟩ := Int.eq_ofNat_of_zero_le he.1
      obtain ⟨p, rfl⟩ := Int.eq_ofNat_of_zero_le hp.1
      rw [Int.toNat_natCast, Int.toNat_natCast]
      obtain ⟨I1, q1, q2⟩ := zq_M_rightAs (X := X) (d := d) (p := p) (k := ((0 : Nat) : Int)) hL (show e < 4 by omega) (show p < S.1.2.1 by omega) (by omega) ho.1 hr.1
      have hr1 := zRM_scr (fun a _ ha => funext fun j => q2 a j (by omega) (by omega)) hr
      obtain ⟨I', r1, r2⟩ := zm_kindFor_l (X := X) (d := d) hL (show e < 4 by omega) ho.1 (show p < S.1.2.1 by omega) 6 1 0 (zrk S.1 e p ((0 : Nat) : Int)) none I1 (by omega) hr1.1
      have q1 : zcal X zP (d + 6) 179 [.inr (.inr (.inl 135)), .inl (e : Int), .inl (p : Int), .inl 0] (I, L) = some (some (.inr (.inl (zrk S.1 e p ((0 : Nat) : Int)))), (I1, L)) := q1
      refine ⟨I', ?_, zRM_scr (fun a _ ha => funext fun j => (r2 a j (by omega) (by omega)).trans (q2 a j (by omega) (by omega))) hr, fun a ha => funext fun j => (r2 a j (by omega) (by omega)).trans (q2 a j (by omega) (by omega))⟩
      refine ((zcal_go zp_M_kindFor rfl).trans zb_M_kindFor_0).trans ?_
      simp only [if_true, if_false, Option.bind_some, Option.bind, Option.toList, List.cons_append, List.nil_append, zite0, zite1, zite01, znn, ite_not, true_or, or_true, true_and, and_true, zn10, zn00, zk_135 hL, zr_135_0 hL, z6_0 hL, z6_1 hL, z6_2 hL, z6_3 hL, z6_4 hL, hb, hc, zb_M_kindFor_4, zb_M_kindFor_12, q1, zb_M_kindFor_30]
      exact r1
    · rw [if_neg hp] at hc
      rw [if_neg (fun h => hp h.2)]
      refine ⟨J, ?_, h2, h3⟩
      refine ((zcal_go zp_M_kindFor rfl).trans zb_M_kindFor_0).trans ?_
      simp only [if_true, if_false, Option.bind_some, Option.bind, Option.toList, List.cons_append, List.nil_append, zite0, zite1, zite01, znn, ite_not, true_or, or_true, true_and, and_true, zn10, zn00, zk_135 hL, zr_135_0 hL, z6_0 hL, z6_1 hL, z6_2 hL, z6_3 hL, z6_4 hL, hb, hc, zb_M_kindFor_4, zb_M_kindFor_12, h1, zb_M_kindFor_20]
  · rw [if_neg he] at hb
    rw [if_neg (fun h => he h.1)]
    refine ⟨J, ?_, h2, h3⟩
    refine ((zcal_go zp_M_kindFor rfl).trans zb_M_kindFor_0).trans ?_
    simp only [if_true, if_false, Option.bind_some, Option.bind, Option.toList, List.cons_append, List.nil_append, zite0, zite1, zite01, znn, ite_not, true_or, or_true, true_and, and_true, zn10, zn00, zk_135 hL, zr_135_0 hL, z6_0 hL, z6_1 hL, z6_2 hL, z6_3 hL, z6_4 hL, hb, zb_M_kindFor_4, h1, zb_M_kindFor_20]
theorem zo_kindFor (ho : zSOK n S) (hn : n < 100000) {e p : Int} : zSOK (n + 1) (zr_kindFor S e p).2 := by
  unfold zr_kindFor
  exact zif2 (fun _ => zSOK_up ho hn) (fun _ => zSOK_f ho (by omega) hn)
theorem zA18 (hL : zLay L) : zA_18 X L := fun n a1 a2 _ _ S ho hn => zCI (zr_kindFor S a1 a2) (by unfold zr_kindFor; exact zif1 ⟨_, rfl⟩ ⟨_, rfl⟩) (zx_kindFor (d := 32) hL ho) (zm_kindFor (d := 33) hL ho) (zo_kindFor ho hn)
/-- play: does it win -/
def zpw (T : zTb) (e : Nat) : Int := if zgs T e T.2.1 = zpeaAt T T.2.1 then 1 else 0
theorem zpw01 {e : Nat} : zpw T e = 0 ∨ zpw T e = 1 := by
  unfold zpw
  split
  · exact Or.inr rfl
  · exact Or.inl rfl
def zr_play (S : zSt) (p e : Int) : zV × zSt := if (0 ≤ p ∧ p ≤ 3) ∧ (0 ≤ e ∧ e ≤ 3) then (if zleft S.1 p.toNat = 0 then (.inl (zpw S.1 e.toNat), zS1 S (zrnd S.1 p.toNat (zpw S.1 e.toNat))) else (.inl (-1000005), zSf S 4)) else (.inl (-1000001), zSf S 0)
theorem zx_play (hL : zLay L) (ho : zSOK n S) (hn : n < 100000) {p e : Int} : zHX X L (d + 7) 98 [.inl p, .inl e] S (zr_play S p e) := by
  intro I hr
  have hb := zq_X_isPlayer (X := X) (d := d + 4) (σ := (I, L)) (v := p)
  have hc := zq_X_isEye (X := X) (d := d + 4) (σ := (I, L)) (v := e)
  unfold zr_play
  by_cases hp : 0 ≤ p ∧ p ≤ 3
  · rw [if_pos hp] at hb
    by_cases he : 0 ≤ e ∧ e ≤ 3
    · rw [if_pos he] at hc
      rw [if_pos ⟨hp, he⟩]
      obtain ⟨m, rfl⟩ := Int.eq_ofNat_of_zero_le hp.1
      obtain ⟨e, rfl⟩ := Int.eq_ofNat_of_zero_le he.1
      rw [Int.toNat_natCast, Int.toNat_natCast]
      obtain ⟨l3, l4⟩ := zpl hL (show m < 4 by omega)
      have hq := zq_X_left (X := X) (d := d + 4) hL hr.1 (show m < 4 by omega)
      by_cases hg : zleft S.1 m = 0
      · rw [if_pos hg]
        rw [hg] at hq
        obtain ⟨I1, q1, q2⟩ := zq_X_likeliest (X := X) (d := d) hL (show e < 4 by omega) ho.1 hr.1
        have hr1 := zRX_scr ho (fun a ha => q2 a (by omega)) hr
        have hpb := zq_Table_peaBehind (X := X) (d := d + 1) (ztabL hL (Or.inl rfl)) hr1.1 ho.1 (k := S.1.2.1) (Nat.le_refl _)
        have e2 : I1 2 2 = (S.1.2.1 : Int) := hr1.1.2.2.1
        obtain ⟨I', r1, r2, r3, r4⟩ := zq_playRound (X := X) (d := d + 3) hL hr1.1 ho.1 (by omega) (show m < 4 by omega) (zpw01 (T := S.1) (e := e))
        refine ⟨I', ?_, zRX_T ho r3 r2 hr1, fun a ha => (r4 a ha).trans (q2 a (by omega))⟩
        refine ((zcal_go zp_X_play rfl).trans zb_X_play_0).trans ?_
        by_cases c : zgs S.1 e S.1.2.1 = zpeaAt S.1 S.1.2.1
        · have ew : zpw S.1 e = 1 := if_pos c
          rw [ew] at r1 ⊢
          simp only [if_true, if_false, Option.bind_some, Option.bind, Option.toList, List.cons_append, List.nil_append, zite0, zite1, zite01, znn, ite_not, true_or, or_true, true_and, and_true, zn10, zn00, zk_1 hL, zr_1_0 hL, zk_2 hL, hb, hc, zb_X_play_4, zb_X_play_11, zr_2_7 hL, zc5 hL (show m < 4 by omega), Int.toNat_natCast, l3, l4, hq, zb_X_play_33, q1, zb_X_play_48, e2, hpb, zb_X_play_62, eq_true c, r1, zb_X_play_80]
        · have ew : zpw S.1 e = 0 := if_neg c
          rw [ew] at r1 ⊢
          simp only [if_true, if_false, Option.bind_some, Option.bind, Option.toList, List.cons_append, List.nil_append, zite0, zite1, zite01, znn, ite_not, true_or, or_true, true_and, and_true, zn10, zn00, zk_1 hL, zr_1_0 hL, zk_2 hL, hb, hc, zb_X_play_4, zb_X_play_11, zr_2_7 hL, zc5 hL (show m < 4 by omega), Int.toNat_natCast, l3, l4, hq, zb_X_play_33, q1, zb_X_play_48, e2, hpb, zb_X_play_62, eq_false c, r1, zb_X_play_80]
      · rw [if_neg hg]
        rw [zleft01.resolve_left hg] at hq
        obtain ⟨J, h1, h2, h3⟩ := zX_tellc (X := X) (d := d + 5) (k := 4) (c := -1000005) hL ho (by omega) (by omega) hr
        refine ⟨J, ?_, h2, h3⟩
        refine ((zcal_go zp_X_play rfl).trans zb_X_play_0).trans ?_
        simp only [if_true, if_false, Option.bind_some, Option.bind, Option.toList, List.cons_append, List.nil_append, zite0, zite1, zite01, znn, ite_not, true_or, or_true, true_and, and_true, zn10, zn00, zk_1 hL, zr_1_0 hL, zk_2 hL, hb, hc, zb_X_play_4, zb_X_play_11, zr_2_7 hL, zc5 hL (show m < 4 by omega), Int.toNat_natCast, l3, l4, hq, zb_X_play_33, h1, zb_X_play_42]
    · rw [if_neg he] at hc
      rw [if_neg (fun h => he h.2)]
      obtain ⟨J, h1, h2, h3⟩ := zX_tellc (X := X) (d := d + 5) (k := 0) (c := -1000001) hL ho (by omega) (by omega) hr
      refine ⟨J, ?_, h2, h3⟩
      refine ((zcal_go zp_X_play rfl).trans zb_X_play_0).trans ?_
      simp only [if_true, if_false, Option.bind_some, Option.bind, Option.toList, List.cons_append, List.nil_append, zite0, zite1, zite01, znn, ite_not, true_or, or_true, true_and, and_true, zn10, zn00, zk_1 hL, zr_1_0 hL, zk_2 hL, hb, hc, zb_X_play_4, zb_X_play_11, h1, zb_X_play_20]
  · rw [if_neg hp] at hb
    rw [if_neg (fun h => hp h.1)]
    obtain ⟨J, h1, h2, h3⟩ := zX_tellc (X := X) (d := d + 5) (k := 0) (c := -1000001) hL ho (by omega) (by omega) hr
    refine ⟨J, ?_, h2, h3⟩
    refine ((zcal_go zp_X_play rfl).trans zb_X_play_0).trans ?_
    simp only [if_true, if_false, Option.bind_some, Option.bind, Option.toList, List.cons_append, List.nil_append, zite0, zite1, zite01, znn, ite_not, true_or, or_true, true_and, and_true, zn10, zn00, zk_1 hL, zr_1_0 hL, zk_2 hL, hb, zb_X_play_4, h1, zb_X_play_20]
theorem zm_play (hL : zLay L) (ho : zSOK n S) (hn : n < 100000) {p e : Int} : zHM X L (d + 6) 202 [.inl p, .inl e] S (zr_play S p e) := by
  intro I hr
  have hb := zq_M_isFour (X := X) (d := d + 3) (σ := (I, L)) (v := p)
  have hc := zq_M_isFour (X := X) (d := d + 3) (σ := (I, L)) (v := e)
  unfold zr_play
  by_cases hp : 0 ≤ p ∧ p ≤ 3
  · rw [if_pos hp] at hb
    by_cases he : 0 ≤ e ∧ e ≤ 3
    · rw [if_pos he] at hc
      rw [if_pos ⟨hp, he⟩]
      obtain ⟨m, rfl⟩ := Int.eq_ofNat_of_zero_le hp.1
      obtain ⟨e, rfl⟩ := Int.eq_ofNat_of_zero_le he.1
      rw [Int.toNat_natCast, Int.toNat_natCast]
      have e1 : I 136 1 = (S.1.2.1 : Int) := hr.1.2.1
      have hq : _ = some (some (Sum.inl (zleft S.1 m)), (I, L)) := zq_M_hasLeft (X := X) (d := d + 3) hL ho hr (show m < 4 by omega)
      by_cases hg : zleft S.1 m = 0
      · rw [if_pos hg]
        rw [hg] at hq
        obtain ⟨I1, q1, q2⟩ := zq_M_guessB (X := X) (d := d) hL (show e < 4 by omega) ho.1 hr.1 (Nat.le_refl S.1.2.1)
        have hr1 := zRM_scr (fun a _ ha => q2 a (by omega) (by omega)) hr
        have hpb := zq_M_peaBehind (X := X) (d := d + 1) hL hr1.1 ho.1 (k := S.1.2.1) (Nat.le_refl _)
        have e2 : I1 136 1 = (S.1.2.1 : Int) := hr1.1.2.1
        obtain ⟨I', r1, r2, r3⟩ := zq_M_aRound (X := X) (d := d + 3) hL hr1.1 ho.1 (by omega) (show m < 4 by omega) (zpw01 (T := S.1) (e := e))
        refine ⟨I', ?_, zRM_T ⟨r3 _ _ (by omega), r3 _ _ (by omega), funext fun j => r3 _ _ (by omega), funext fun j => r3 _ _ (by omega), funext fun j => r3 _ _ (by omega), funext fun j => r3 _ _ (by omega), funext fun j => r3 _ _ (by omega), funext fun j => r3 _ _ (by omega)⟩ r2 hr1, fun a ha => (funext fun j => r3 _ _ (by omega)).trans (q2 a (by omega) (by omega))⟩
        refine ((zcal_go zp_M_play rfl).trans zb_M_play_0).trans ?_
        by_cases c : zgs S.1 e S.1.2.1 = zpeaAt S.1 S.1.2.1
        · have ew : zpw S.1 e = 1 := if_pos c
          rw [ew] at r1 ⊢
          simp only [if_true, if_false, Option.bind_some, Option.bind, Option.toList, List.cons_append, List.nil_append, zite0, zite1, zite01, znn, ite_not, true_or, or_true, true_and, and_true, zn10, zn00, zk_135 hL, zr_135_0 hL, z6_0 hL, z6_1 hL, z6_2 hL, z6_3 hL, z6_4 hL, hb, hc, zb_M_play_4, zb_M_play_11, hq, zb_M_play_25, e1, q1, zb_M_play_45, e2, hpb, zb_M_play_55, eq_true c, r1, zb_M_play_70]
        · have ew : zpw S.1 e = 0 := if_neg c
          rw [ew] at r1 ⊢
          simp only [if_true, if_false, Option.bind_some, Option.bind, Option.toList, List.cons_append, List.nil_append, zite0, zite1, zite01, znn, ite_not, true_or, or_true, true_and, and_true, zn10, zn00, zk_135 hL, zr_135_0 hL, z6_0 hL, z6_1 hL, z6_2 hL, z6_3 hL, z6_4 hL, hb, hc, zb_M_play_4, zb_M_play_11, hq, zb_M_play_25, e1, q1, zb_M_play_45, e2, hpb, zb_M_play_55, eq_false c, r1, zb_M_play_70]
      · rw [if_neg hg]
        rw [zleft01.resolve_left hg] at hq
        obtain ⟨J, h1, h2, h3⟩ := zM_findsc (X := X) (d := d + 4) (k := 4) (c := -1000005) (k' := 4) hL ho (by omega) (by omega) (by omega) hr
        refine ⟨J, ?_, h2, h3⟩
        refine ((zcal_go zp_M_play rfl).trans zb_M_play_0).trans ?_
        simp only [if_true, if_false, Option.bind_some, Option.bind, Option.toList, List.cons_append, List.nil_append, zite0, zite1, zite01, znn, ite_not, true_or, or_true, true_and, and_true, zn10, zn00, zk_135 hL, zr_135_0 hL, z6_0 hL, z6_1 hL, z6_2 hL, z6_3 hL, z6_4 hL, hb, hc, zb_M_play_4, zb_M_play_11, hq, zb_M_play_25, h1, zb_M_play_33]
    · rw [if_neg he] at hc
      rw [if_neg (fun h => he h.2)]
      obtain ⟨J, h1, h2, h3⟩ := zM_findsc (X := X) (d := d + 4) (k := 0) (c := -1000001) (k' := 0) hL ho (by omega) (by omega) (by omega) hr
      refine ⟨J, ?_, h2, h3⟩
      refine ((zcal_go zp_M_play rfl).trans zb_M_play_0).trans ?_
      simp only [if_true, if_false, Option.bind_some, Option.bind, Option.toList, List.cons_append, List.nil_append, zite0, zite1, zite01, znn, ite_not, true_or, or_true, true_and, and_true, zn10, zn00, zk_135 hL, zr_135_0 hL, z6_0 hL, z6_1 hL, z6_2 hL, z6_3 hL, z6_4 hL, hb, hc, zb_M_play_4, zb_M_play_11, h1, zb_M_play_19]
  · rw [if_neg hp] at hb
    rw [if_neg (fun h => hp h.1)]
    obtain ⟨J, h1, h2, h3⟩ := zM_findsc (X := X) (d := d + 4) (k := 0) (c := -1000001) (k' := 0) hL ho (by omega) (by omega) (by omega) hr
    refine ⟨J, ?_, h2, h3⟩
    refine ((zcal_go zp_M_play rfl).trans zb_M_play_0).trans ?_
    simp only [if_true, if_false, Option.bind_some, Option.bind, Option.toList, List.cons_append, List.nil_append, zite0, zite1, zite01, znn, ite_not, true_or, or_true, true_and, and_true, zn10, zn00, zk_135 hL, zr_135_0 hL, z6_0 hL, z6_1 hL, z6_2 hL, z6_3 hL, z6_4 hL, hb, zb_M_play_4, h1, zb_M_play_19]
theorem zo_play (ho : zSOK n S) (hn : n < 100000) {p e : Int} : zSOK (n + 1) (zr_play S p e).2 := by
  unfold zr_play
  refine zif2 (fun h => zif2 (fun _ => ⟨zTOK_rnd (by omega) ho.1, (zSOK_up ho hn).2⟩) (fun _ => zSOK_f ho (by omega) hn)) (fun _ => zSOK_f ho (by omega) hn)
theorem zA28 (hL : zLay L) : zA_28 X L := fun n a1 a2 _ _ S ho hn => zCI (zr_play S a1 a2) (by unfold zr_play; repeat' (first | exact ⟨_, rfl⟩ | refine zif1 ?_ ?_)) (zx_play (d := 33) hL ho hn) (zm_play (d := 34) hL ho hn) (zo_play ho hn)
end
