/-! CONTRACTS OF CALLS: feints, surely. -/
/-- where the pea is in the end, the passes of a set doing nothing -/
def zpfs (T : zTb) (s : Nat) (i : Nat) (a : Int) : Int := if s / 2 ^ i % 2 = 1 then a else zpea (T.2.2 i).1 (T.2.2 i).2.1 (T.2.2 i).2.2 a
def zpf (T : zTb) (s : Nat) : Int := zfor (zpfs T s) T.2.1 0 (T.1 2)
theorem zfor_s {α : Type} {f : Nat → α → α} {m i : Nat} {a : α} : zfor f (m + 1) i a = zfor f m (i + 1) (f i a) := rfl
/-- how many of the passes may be feints -/
def zmany (T : zTb) : Nat := if 10 < T.2.1 then 10 else T.2.1
theorem zmany_le {T : zTb} : zmany T < 11 := by unfold zmany; split <;> omega
def zfc (T : zTb) (p : Int) (s : Nat) (c : Int) : Int := if zpf T s = p then w32 (c + 1) else c
abbrev zQ3 : Type := Int × (Int × Int)
abbrev zQ4 : Type := Int × (Int × (Int × Int))
def zgx (T : zTb) (p : Int) (s : Nat) (q : zQ3) : zQ3 := if zpf T s = p then (if q.1 = -1 then ((s : Int), (zand (s : Int) (s : Int), zor q.2.2 (s : Int))) else (q.1, (zand q.2.1 (s : Int), zor q.2.2 (s : Int)))) else q
def zgm (T : zTb) (p : Int) (s : Nat) (r : zQ4) : zQ4 := if zpf T s = p then (w32 (r.1 + 1), (if r.1 = 0 then (s : Int) else r.2.1, (zand r.2.2.1 (s : Int), zor r.2.2.2 (s : Int)))) else r
def zallb (T : zTb) : Int := w32 (zshl 1 (zmany T : Int) - 1)
/-- what the two folds have to do with each other -/
def zgR (T : zTb) (i : Nat) (q : zQ3) (r : zQ4) : Prop := q.2.2 = r.2.2.2 ∧ ((q.1 = -1 ∧ r.1 = 0 ∧ r.2.2.1 = zallb T) ∨ (0 ≤ q.1 ∧ q.1 = r.2.1 ∧ 0 < r.1 ∧ r.1 ≤ (i : Int) ∧ q.2.1 = r.2.2.1))
theorem zgR_0 {T : zTb} : zgR T 0 ((-1, (0, 0)) : zQ3) ((0, (0, (zallb T, 0))) : zQ4) := by
  unfold zgR
  exact And.intro (Eq.refl (0 : Int)) (Or.inl (And.intro (Eq.refl (-1 : Int)) (And.intro (Eq.refl (0 : Int)) (Eq.refl (zallb T)))))
theorem zgR_1 {T : zTb} {p : Int} {i : Nat} {q : zQ3} {r : zQ4} (hi : i < 2 ^ zmany T) (h : zgR T i q r) : zgR T (i + 1) (zgx T p i q) (zgm T p i r) := by
  have h3 := zbt3 (zmany T) zmany_le i hi
  have h5 := zbt5 (zmany T) zmany_le
  obtain ⟨h1, h2⟩ := h
  unfold zgx zgm
  by_cases c : zpf T i = p
  · rw [if_pos c, if_pos c]
    rcases h2 with ⟨a1, a2, a3⟩ | ⟨a1, a2, a3, a4, a5⟩
    · rw [if_pos a1, if_pos a2]
      refine ⟨by show zor q.2.2 (i : Int) = zor r.2.2.2 (i : Int); rw [h1], Or.inr ⟨?_, rfl, ?_, ?_, ?_⟩⟩
      · show 0 ≤ (i : Int); omega
      · show 0 < w32 (r.1 + 1); rw [a2]; decide
      · show w32 (r.1 + 1) ≤ ((i + 1 : Nat) : Int); rw [a2, show w32 (0 + 1) = 1 from by decide]; omega
      · show zand (i : Int) (i : Int) = zand r.2.2.1 (i : Int); rw [a3]; exact h3.symm
    · rw [if_neg (by omega), if_neg (by omega)]
      have e := zw32 (x := r.1 + 1) (by omega) (by omega)
      refine ⟨by show zor q.2.2 (i : Int) = zor r.2.2.2 (i : Int); rw [h1], Or.inr ⟨a1, a2, ?_, ?_, ?_⟩⟩
      · show 0 < w32 (r.1 + 1); rw [e]; omega
      · show w32 (r.1 + 1) ≤ ((i + 1 : Nat) : Int); rw [e]; omega
      · show zand q.2.1 (i : Int) = zand r.2.2.1 (i : Int); rw [a5]
  · rw [if_neg c, if_neg c]
    refine ⟨h1, ?_⟩
    rcases h2 with a | ⟨a1, a2, a3, a4, a5⟩
    · exact Or.inl a
    · exact Or.inr ⟨a1, a2, a3, by omega, a5⟩
theorem zgR_n {T : zTb} {p : Int} : ∀ (m i : Nat) (q : zQ3) (r : zQ4), i + m ≤ 2 ^ zmany T → zgR T i q r → zgR T (i + m) (zfor (zgx T p) m i q) (zfor (zgm T p) m i r) := by
  intro m
  induction m with
  | zero => intro i q r _ h; exact h
  | succ m ih =>
    intro i q r hi h
    rw [zfor_s, zfor_s, show i + (m + 1) = i + 1 + m by omega]
    exact ih _ _ _ (by omega) (zgR_1 (by omega) h)
/-- the number of both -/
theorem zgm_c {T : zTb} {p : Int} : ∀ (m i : Nat) (r : zQ4), (zfor (zgm T p) m i r).1 = zfor (zfc T p) m i r.1 := by
  intro m
  induction m with
  | zero => intro i r; rfl
  | succ m ih =>
    intro i r
    rw [zfor_s, zfor_s, ih]
    unfold zgm zfc
    split <;> rfl
section
variable {X : zX} {C : zC} {d n : Nat} {L : zLt} {S : zSt} {T : zTb} {I : Nat → Nat → Int}
theorem zq_sets (hL : zLay L) (ho : zTOK n T) (hT : zTC I 2 T) : zcal X zP (d + 1) 46 [.inr (.inr (.inl 2))] (I, L) = some (some (.inl ((2 ^ zmany T : Nat) : Int)), (I, L)) := by
  have e2 : I 2 2 = (T.2.1 : Int) := hT.2.2.1
  have e : (if (10 : Int) < (T.2.1 : Int) then 10 else (T.2.1 : Int)) = (zmany T : Int) := by
    unfold zmany
    by_cases c : 10 < T.2.1
    · rw [if_pos c, if_pos (by omega)]; rfl
    · rw [if_neg c, if_neg (by omega)]
  refine ((zcal_go zp_Table_feintSets rfl).trans zb_Table_feintSets_0).trans ?_
  simp only [if_true, if_false, Option.bind_some, Option.bind, Option.toList, List.cons_append, List.nil_append, zite0, zite1, zite01, znn, ite_not, true_or, or_true, true_and, and_true, zn10, zn00, zk_2 hL, e2, e, zbt4 (zmany T) zmany_le]
theorem zq_pwf_l (hL : zLay L) (ho : zTOK n T) (hT : zTC I 2 T) {s : Nat} (hs : s < 1024) : ∀ (m i : Nat) (a : Int), i + m = T.2.1 → zgo X (zcal X zP (d + 4)) zc_Table_peaWithFeints 7 [some (.inr (.inr (.inl 2))), some (.inl (s : Int)), some (.inl a), some (.inl (i : Int))] [] (I, L) = some (some (.inl (zfor (zpfs T s) m i a)), (I, L)) := by
  have h14 := ho.2.2.2.2.1
  have e2 : I 2 2 = (T.2.1 : Int) := hT.2.2.1
  intro m
  induction m with
  | zero =>
    intro i a hi
    rw [zb_Table_peaWithFeints_7]
    simp only [if_true, if_false, Option.bind_some, Option.bind, Option.toList, List.cons_append, List.nil_append, zite0, zite1, zite01, znn, ite_not, true_or, or_true, true_and, and_true, zn10, zn00, zk_2 hL, e2]
    rw [if_neg (by omega)]
    rfl
  | succ m ih =>
    intro i a hi
    have hi14 : i < 14 := by omega
    have him : i < 1000000 := by omega
    have hii : (i : Int) < (T.2.1 : Int) := by omega
    obtain ⟨l3, l4⟩ := zp14 hL hi14
    obtain ⟨p1, p2, p3⟩ := hT.2.2.2.2.2.1 i (by omega)
    obtain ⟨-, -, -, o7⟩ := ho.2.2.2.2.2.1 i (by omega)
    have hp := zq_Pass_peaBehind (X := X) (d := d) (σ := (I, L)) (p := 7 + i) (v := a) l4 (by show I (2 + 5 + i) 1 ≠ I (2 + 5 + i) 2; rw [p2, p3]; exact o7)
    have p1 : I (7 + i) 0 = _ := p1
    have p2 : I (7 + i) 1 = _ := p2
    have p3 : I (7 + i) 2 = _ := p3
    have hb := zbt1 s hs i hi14
    have ez : zfor (zpfs T s) (m + 1) i a = zfor (zpfs T s) m (i + 1) (if s / 2 ^ i % 2 = 1 then a else zpea (T.2.2 i).1 (T.2.2 i).2.1 (T.2.2 i).2.2 a) := rfl
    rw [ez]
    by_cases c : s / 2 ^ i % 2 = 1
    · have ihh := ih (i + 1) a (by omega)
      have hb0 : ¬ zand (s : Int) (zshl 1 (i : Int)) = 0 := fun h => hb.mp h c
      rw [if_pos c, zb_Table_peaWithFeints_7]
      simp only [if_true, if_false, Option.bind_some, Option.bind, Option.toList, List.cons_append, List.nil_append, zite0, zite1, zite01, znn, ite_not, true_or, or_true, true_and, and_true, zn10, zn00, zk_2 hL, e2, eq_true hii, eq_false hb0]
      rw [zw32n him]
      exact ihh
    · have ihh := ih (i + 1) (zpea (T.2.2 i).1 (T.2.2 i).2.1 (T.2.2 i).2.2 a) (by omega)
      have hb0 : zand (s : Int) (zshl 1 (i : Int)) = 0 := hb.mpr c
      rw [if_neg c, zb_Table_peaWithFeints_7]
      simp only [if_true, if_false, Option.bind_some, Option.bind, Option.toList, List.cons_append, List.nil_append, zite0, zite1, zite01, znn, ite_not, true_or, or_true, true_and, and_true, zn10, zn00, zk_2 hL, e2, eq_true hii, eq_true hb0, zr_2_5 hL, zc3 hL hi14, Int.toNat_natCast, l3, l4, hp, p1, p2, p3, zb_Table_peaWithFeints_33]
      rw [zw32n him]
      exact ihh
theorem zq_pwf (hL : zLay L) (ho : zTOK n T) (hT : zTC I 2 T) {s : Nat} (hs : s < 1024) : zcal X zP (d + 5) 47 [.inr (.inr (.inl 2)), .inl (s : Int)] (I, L) = some (some (.inl (zpf T s)), (I, L)) := by
  have e : I 2 1 = T.1 2 := hT.2.1
  refine ((zcal_go zp_Table_peaWithFeints rfl).trans zb_Table_peaWithFeints_0).trans ?_
  simp only [if_true, if_false, Option.bind_some, Option.bind, Option.toList, List.cons_append, List.nil_append, zite0, zite1, zite01, znn, ite_not, true_or, or_true, true_and, and_true, zn10, zn00, zk_2 hL, e]
  exact zq_pwf_l hL ho hT hs T.2.1 0 _ (by omega)
theorem zx_feints_l (hL : zLay L) (ho : zTOK n T) (hT : zTC I 2 T) {p : Int} : ∀ (m s : Nat) (c : Int), s + m = 2 ^ zmany T → zgo X (zcal X zP (d + 5)) zc_X_feints 28 [some (.inr (.inr (.inl 1))), some (.inl p), some (.inl c), some (.inl ((2 ^ zmany T : Nat) : Int)), some (.inl (s : Int))] [] (I, L) = some (some (.inl (zfor (zfc T p) m s c)), (I, L)) := by
  have h5 := zbt5 (zmany T) zmany_le
  generalize 2 ^ zmany T = M at h5 ⊢
  intro m
  induction m with
  | zero =>
    intro s c hs
    rw [zb_X_feints_28, if_neg (by omega)]
    rfl
  | succ m ih =>
    intro s c hs
    have hss : (s : Int) < (M : Int) := by omega
    have hsm : s < 1000000 := by omega
    have hq := zq_pwf (X := X) (d := d) hL ho hT (show s < 1024 by omega)
    have ez : zfor (zfc T p) (m + 1) s c = zfor (zfc T p) m (s + 1) (if zpf T s = p then w32 (c + 1) else c) := rfl
    rw [ez, zb_X_feints_28, if_pos hss]
    simp only [if_true, if_false, Option.bind_some, Option.bind, Option.toList, List.cons_append, List.nil_append, zite0, zite1, zite01, znn, ite_not, true_or, or_true, true_and, and_true, zn10, zn00, zk_1 hL, zr_1_0 hL, zk_2 hL, hq, zb_X_feints_43]
    rw [zw32n hsm, ih _ _ (by omega), ih _ _ (by omega)]
    split <;> rfl
def zr_feints (S : zSt) (p : Int) : zV × zSt := if -1 ≤ p ∧ p ≤ S.1.1 0 - 1 then (.inl (zfor (zfc S.1 p) (2 ^ zmany S.1) 0 0), S) else (.inl (-1000001), zSf S 0)
theorem zx_feints (hL : zLay L) (ho : zSOK n S) {p : Int} : zHX X L (d + 6) 91 [.inl p] S (zr_feints S p) := by
  intro I hr
  have hb := zq_X_isPlaceOrHand (X := X) (d := d + 2) (v := p) hL hr.1 ho.1
  unfold zr_feints
  by_cases hp : -1 ≤ p ∧ p ≤ S.1.1 0 - 1
  · rw [if_pos hp] at hb ⊢
    have hq := zq_sets (X := X) (d := d + 4) hL ho.1 hr.1
    refine ⟨I, ?_, hr, fun a ha => rfl⟩
    refine ((zcal_go zp_X_feints rfl).trans zb_X_feints_0).trans ?_
    simp only [if_true, if_false, Option.bind_some, Option.bind, Option.toList, List.cons_append, List.nil_append, zite0, zite1, zite01, znn, ite_not, true_or, or_true, true_and, and_true, zn10, zn00, zk_1 hL, zr_1_0 hL, zk_2 hL, hb, zb_X_feints_5, hq, zb_X_feints_24]
    exact zx_feints_l hL ho.1 hr.1 _ 0 0 (by omega)
  · rw [if_neg hp] at hb ⊢
    obtain ⟨J, h1, h2, h3⟩ := zX_tellc (X := X) (d := d + 4) (k := 0) (c := -1000001) hL ho (by omega) (by omega) hr
    refine ⟨J, ?_, h2, h3⟩
    refine ((zcal_go zp_X_feints rfl).trans zb_X_feints_0).trans ?_
    simp only [if_true, if_false, Option.bind_some, Option.bind, Option.toList, List.cons_append, List.nil_append, zite0, zite1, zite01, znn, ite_not, true_or, or_true, true_and, and_true, zn10, zn00, zk_1 hL, zr_1_0 hL, zk_2 hL, hb, zb_X_feints_5, h1, zb_X_feints_14]
theorem zx_surely_l (hL : zLay L) (ho : zTOK n T) (hT : zTC I 2 T) {p w : Int} : ∀ (m s : Nat) (q : zQ3), s + m = 2 ^ zmany T → zgo X (zcal X zP (d + 5)) zc_X_surely 44 [some (.inr (.inr (.inl 1))), some (.inl p), some (.inl w), some (.inl q.1), some (.inl q.2.1), some (.inl q.2.2), some (.inl ((2 ^ zmany T : Nat) : Int)), some (.inl (s : Int))] [] (I, L) = zgo X (zcal X zP (d + 5)) zc_X_surely 44 [some (.inr (.inr (.inl 1))), some (.inl p), some (.inl w), some (.inl (zfor (zgx T p) m s q).1), some (.inl (zfor (zgx T p) m s q).2.1), some (.inl (zfor (zgx T p) m s q).2.2), some (.inl ((2 ^ zmany T : Nat) : Int)), some (.inl ((2 ^ zmany T : Nat) : Int))] [] (I, L) := by
  have h5 := zbt5 (zmany T) zmany_le
  generalize 2 ^ zmany T = M at h5 ⊢
  intro m
  induction m with
  | zero =>
    intro s q hs
    have hs : s = M := hs
    rw [hs]
    rfl
  | succ m ih =>
    intro s q hs
    have hss : (s : Int) < (M : Int) := by omega
    have hsm : s < 1000000 := by omega
    have hq := zq_pwf (X := X) (d := d) hL ho hT (show s < 1024 by omega)
    have ihh := ih (s + 1) (zgx T p s q) (by omega)
    rw [zfor_s]
    refine Eq.trans ?_ ihh
    rw [zb_X_surely_44, if_pos hss]
    simp only [if_true, if_false, Option.bind_some, Option.bind, Option.toList, List.cons_append, List.nil_append, zite0, zite1, zite01, znn, ite_not, true_or, or_true, true_and, and_true, zn10, zn00, zk_1 hL, zr_1_0 hL, zk_2 hL, hq, zb_X_surely_60]
    rw [zw32n hsm]
    unfold zgx
    by_cases c : zpf T s = p
    · rw [if_pos c, if_pos c]
      by_cases c2 : q.1 = -1
      · rw [if_pos c2, if_pos c2]
      · rw [if_neg c2, if_neg c2]
    · rw [if_neg c, if_neg c]
def zsur (T : zTb) (p : Int) : zQ3 := zfor (zgx T p) (2 ^ zmany T) 0 (-1, (0, 0))
def zr_surely (S : zSt) (p w : Int) : zV × zSt := if (-1 ≤ p ∧ p ≤ S.1.1 0 - 1) ∧ (0 ≤ w ∧ w ≤ 2) then (if (zsur S.1 p).1 = -1 then (.inl (-1000004), zSf S 3) else (.inl (if w = 0 then (zsur S.1 p).1 else if w = 1 then (zsur S.1 p).2.1 else (zsur S.1 p).2.2), S)) else (.inl (-1000001), zSf S 0)
theorem zx_surely (hL : zLay L) (ho : zSOK n S) {p w : Int} : zHX X L (d + 6) 92 [.inl p, .inl w] S (zr_surely S p w) := by
  intro I hr
  have hb := zq_X_isPlaceOrHand (X := X) (d := d + 2) (v := p) hL hr.1 ho.1
  have hc := zq_X_within (X := X) (d := d + 4) (σ := (I, L)) (v := w) (a := 0) (b := 2)
  obtain ⟨J, h1, h2, h3⟩ := zX_tellc (X := X) (d := d + 4) (k := 0) (c := -1000001) hL ho (by omega) (by omega) hr
  unfold zr_surely
  by_cases hp : -1 ≤ p ∧ p ≤ S.1.1 0 - 1
  · rw [if_pos hp] at hb
    by_cases hw : 0 ≤ w ∧ w ≤ 2
    · rw [if_pos hw] at hc
      rw [if_pos ⟨hp, hw⟩]
      have hq := zq_sets (X := X) (d := d + 4) hL ho.1 hr.1
      have hl := zx_surely_l (X := X) (d := d) hL ho.1 hr.1 (p := p) (w := w) (2 ^ zmany S.1) 0 (-1, (0, 0)) (by omega)
      have key : zcal X zP (d + 6) 92 [.inr (.inr (.inl 1)), .inl p, .inl w] (I, L) = zgo X (zcal X zP (d + 5)) zc_X_surely 44 [some (.inr (.inr (.inl 1))), some (.inl p), some (.inl w), some (.inl (-1)), some (.inl 0), some (.inl 0), some (.inl ((2 ^ zmany S.1 : Nat) : Int)), some (.inl 0)] [] (I, L) := by
        refine ((zcal_go zp_X_surely rfl).trans zb_X_surely_0).trans ?_
        simp only [if_true, if_false, Option.bind_some, Option.bind, Option.toList, List.cons_append, List.nil_append, zite0, zite1, zite01, znn, ite_not, true_or, or_true, true_and, and_true, zn10, zn00, zk_1 hL, zr_1_0 hL, zk_2 hL, hb, hc, zb_X_surely_5, zb_X_surely_14, hq, zb_X_surely_39]
      have key := key.trans hl
      have hn : ¬ ((2 ^ zmany S.1 : Nat) : Int) < ((2 ^ zmany S.1 : Nat) : Int) := Int.lt_irrefl _
      by_cases c : (zsur S.1 p).1 = -1
      · rw [if_pos c]
        obtain ⟨J, h1, h2, h3⟩ := zX_tellc (X := X) (d := d + 4) (k := 3) (c := -1000004) hL ho (by omega) (by omega) hr
        refine ⟨J, key.trans ?_, h2, h3⟩
        have c : (zfor (zgx S.1 p) (2 ^ zmany S.1) 0 (-1, (0, 0))).1 = -1 := c
        rw [zb_X_surely_44, if_neg hn]
        simp only [if_true, if_false, Option.bind_some, Option.bind, Option.toList, List.cons_append, List.nil_append, zite0, zite1, zite01, znn, ite_not, true_or, or_true, true_and, and_true, zn10, zn00, zk_1 hL, zr_1_0 hL, zk_2 hL, eq_true c, h1, zb_X_surely_107]
      · rw [if_neg c]
        refine ⟨I, key.trans ?_, hr, fun a ha => rfl⟩
        have c : ¬ (zfor (zgx S.1 p) (2 ^ zmany S.1) 0 (-1, (0, 0))).1 = -1 := c
        rw [zb_X_surely_44, if_neg hn, if_neg c]
        unfold zsur
        split
        · rfl
        · split <;> rfl
    · rw [if_neg hw] at hc
      rw [if_neg (fun h => hw h.2)]
      refine ⟨J, ?_, h2, h3⟩
      refine ((zcal_go zp_X_surely rfl).trans zb_X_surely_0).trans ?_
      simp only [if_true, if_false, Option.bind_some, Option.bind, Option.toList, List.cons_append, List.nil_append, zite0, zite1, zite01, znn, ite_not, true_or, or_true, true_and, and_true, zn10, zn00, zk_1 hL, zr_1_0 hL, zk_2 hL, hb, hc, zb_X_surely_5, zb_X_surely_14, h1, zb_X_surely_23]
  · rw [if_neg hp] at hb
    rw [if_neg (fun h => hp h.1)]
    refine ⟨J, ?_, h2, h3⟩
    refine ((zcal_go zp_X_surely rfl).trans zb_X_surely_0).trans ?_
    simp only [if_true, if_false, Option.bind_some, Option.bind, Option.toList, List.cons_append, List.nil_append, zite0, zite1, zite01, znn, ite_not, true_or, or_true, true_and, and_true, zn10, zn00, zk_1 hL, zr_1_0 hL, zk_2 hL, hb, zb_X_surely_5, h1, zb_X_surely_23]
theorem zpea_1 {a b v : Int} : zpea 1 a b v = v := by
  unfold zpea zthing
  rw [if_neg (fun h => absurd h.1 (by decide)), if_neg (fun h => absurd h.1 (by decide)), if_pos rfl]
theorem zRM_sc2 {I I' : Nat → Nat → Int} {S : zSt} (hr : ∀ a j, a ≠ 137 → (a < 141 ∨ 147 ≤ a) → (a ≠ 135 ∨ j = 3 ∨ j = 6) → I' a j = I a j) (h : zRM I S) : zRM I' S := by
  obtain ⟨h1, h2, h3, h4, h5, h6, h7⟩ := h
  refine ⟨zTM_row (funext fun j => hr 136 j (by omega) (by omega) (by omega)) h1, ?_, fun e => zTM_row (funext fun j => hr 138 j (by omega) (by omega) (by omega)) (h3 e), ?_, fun j hj => ?_, fun s hs => ?_, fun k hk => ?_⟩
  · rw [hr 135 3 (by omega) (by omega) (by omega)]; exact h2
  · rw [hr 135 6 (by omega) (by omega) (by omega)]; exact h4
  · rw [hr 140 j (by omega) (by omega) (by omega)]; exact h5 j hj
  · rw [hr 147 s (by omega) (by omega) (by omega), hr 148 s (by omega) (by omega) (by omega)]
    obtain ⟨a, b, c⟩ := h6 s hs
    exact ⟨a, b, fun j hj => (hr 149 _ (by omega) (by omega) (by omega)).trans (c j hj)⟩
  · rw [hr 139 k (by omega) (by omega) (by omega)]; exact h7 k hk
theorem zm_ff_l (hL : zLay L) (ho : zTOK n T) (hT : zTM I 136 T) {p k : Int} {s : Nat} (hs : s < 1024) : ∀ (m i : Nat) (a : Int), i + m = T.2.1 → -1 ≤ a → zgo X (zcal X zP (d + 3)) zc_M_findFeints 67 [some (.inr (.inr (.inl 135))), some (.inl p), some (.inl k), some (.inl (s : Int)), some (.inl a), some (.inl (i : Int))] [] (I, L) = zgo X (zcal X zP (d + 3)) zc_M_findFeints 67 [some (.inr (.inr (.inl 135))), some (.inl p), some (.inl k), some (.inl (s : Int)), some (.inl (zfor (zpfs T s) m i a)), some (.inl (T.2.1 : Int))] [] (I, L) := by
  have h14 := ho.2.2.2.2.1
  have e2 : I 136 1 = (T.2.1 : Int) := hT.2.1
  intro m
  induction m with
  | zero =>
    intro i a hi _
    have hi : i = T.2.1 := hi
    rw [hi]
    rfl
  | succ m ih =>
    intro i a hi ha
    have hi14 : i < 14 := by omega
    have hiN : i < T.2.1 := by omega
    have him : i < 1000000 := by omega
    have hii : (i : Int) < (T.2.1 : Int) := by omega
    obtain ⟨-, q2, q3, q4⟩ := ho.2.2.2.2.2.1 i hiN
    have i0 := zq_M_its0 (X := X) (d := d + 2) hL hT ho hiN
    have i1 := zq_M_its1 (X := X) (d := d + 2) hL hT ho hiN
    have i2 := zq_M_its2 (X := X) (d := d + 2) hL hT ho hiN
    have hb := zbt2 s hs i hi14
    have ez : zfor (zpfs T s) (m + 1) i a = zfor (zpfs T s) m (i + 1) (if s / 2 ^ i % 2 = 1 then a else zpea (T.2.2 i).1 (T.2.2 i).2.1 (T.2.2 i).2.2 a) := rfl
    rw [ez]
    by_cases c : s / 2 ^ i % 2 = 1
    · have ihh := ih (i + 1) a (by omega) ha
      have hb0 : zand (zshr (s : Int) (i : Int)) 1 = 1 := hb.mpr c
      have hp := zq_M_peaBy (X := X) (d := d) (σ := (I, L)) (k := 1) (v := a) q4 q2.1 q3.1 ha
      rw [zpea_1] at hp
      rw [if_pos c]
      refine Eq.trans ?_ ihh
      rw [zb_M_findFeints_67]
      simp only [if_true, if_false, Option.bind_some, Option.bind, Option.toList, List.cons_append, List.nil_append, zite0, zite1, zite01, znn, ite_not, true_or, or_true, true_and, and_true, zn10, zn00, zk_135 hL, zr_135_0 hL, z6_0 hL, z6_1 hL, z6_2 hL, z6_3 hL, z6_4 hL, e2, eq_true hii, eq_true hb0, zb_M_findFeints_99, i1, zb_M_findFeints_106, i2, zb_M_findFeints_113, hp, zb_M_findFeints_118]
      rw [zw32n him]
    · have ihh := ih (i + 1) (zpea (T.2.2 i).1 (T.2.2 i).2.1 (T.2.2 i).2.2 a) (by omega) (zpea_ge q2.1 q3.1 ha)
      have hb0 : ¬ zand (zshr (s : Int) (i : Int)) 1 = 1 := fun h => c (hb.mp h)
      have hp := zq_M_peaBy (X := X) (d := d) (σ := (I, L)) (k := (T.2.2 i).1) (v := a) q4 q2.1 q3.1 ha
      rw [if_neg c]
      refine Eq.trans ?_ ihh
      rw [zb_M_findFeints_67]
      simp only [if_true, if_false, Option.bind_some, Option.bind, Option.toList, List.cons_append, List.nil_append, zite0, zite1, zite01, znn, ite_not, true_or, or_true, true_and, and_true, zn10, zn00, zk_135 hL, zr_135_0 hL, z6_0 hL, z6_1 hL, z6_2 hL, z6_3 hL, z6_4 hL, e2, eq_true hii, eq_false hb0, i0, zb_M_findFeints_99, i1, zb_M_findFeints_106, i2, zb_M_findFeints_113, hp, zb_M_findFeints_118]
      rw [zw32n him]
def zr4 (I : Nat → Nat → Int) (r : zQ4) : Prop := I 135 15 = r.1 ∧ I 135 16 = r.2.1 ∧ I 135 17 = r.2.2.1 ∧ I 135 18 = r.2.2.2
theorem zm_ff_o (hL : zLay L) (ho : zTOK n T) {p : Int} : ∀ (m s : Nat) (r : zQ4) (o4 o5 : Option zV) (I : Nat → Nat → Int), s + m = 2 ^ zmany T → zTM I 136 T → zr4 I r → ∃ I', zgo X (zcal X zP (d + 3)) zc_M_findFeints 49 [some (.inr (.inr (.inl 135))), some (.inl p), some (.inl (zmany T : Int)), some (.inl (s : Int)), o4, o5] [] (I, L) = some (none, (I', L)) ∧ zr4 I' (zfor (zgm T p) m s r) ∧ ∀ a j, (a ≠ 135 ∨ j < 15 ∨ 18 < j) → I' a j = I a j := by
  have h5 := zbt5 (zmany T) zmany_le
  have h4 := zbt4 (zmany T) zmany_le
  have r1 : ∀ (J : Nat → Nat → Int) v, zwI J 135 16 v 135 15 = J 135 15 := fun J v => zwI_nej (by decide)
  have r2 : ∀ (J : Nat → Nat → Int) v, zwI J 135 16 v 135 17 = J 135 17 := fun J v => zwI_nej (by decide)
  have r3 : ∀ (J : Nat → Nat → Int) v, zwI J 135 16 v 135 18 = J 135 18 := fun J v => zwI_nej (by decide)
  have r4 : ∀ (J : Nat → Nat → Int) v, zwI J 135 15 v 135 17 = J 135 17 := fun J v => zwI_nej (by decide)
  have r5 : ∀ (J : Nat → Nat → Int) v, zwI J 135 15 v 135 18 = J 135 18 := fun J v => zwI_nej (by decide)
  have r6 : ∀ (J : Nat → Nat → Int) v, zwI J 135 17 v 135 18 = J 135 18 := fun J v => zwI_nej (by decide)
  have r7 : ∀ (J : Nat → Nat → Int) v, zwI J 135 18 v 135 15 = J 135 15 := fun J v => zwI_nej (by decide)
  have r8 : ∀ (J : Nat → Nat → Int) v, zwI J 135 17 v 135 15 = J 135 15 := fun J v => zwI_nej (by decide)
  have r9 : ∀ (J : Nat → Nat → Int) v, zwI J 135 18 v 135 16 = J 135 16 := fun J v => zwI_nej (by decide)
  have r10 : ∀ (J : Nat → Nat → Int) v, zwI J 135 17 v 135 16 = J 135 16 := fun J v => zwI_nej (by decide)
  have r11 : ∀ (J : Nat → Nat → Int) v, zwI J 135 15 v 135 16 = J 135 16 := fun J v => zwI_nej (by decide)
  have r12 : ∀ (J : Nat → Nat → Int) v, zwI J 135 18 v 135 17 = J 135 17 := fun J v => zwI_nej (by decide)
  intro m
  induction m with
  | zero =>
    intro s r o4 o5 I hs hT hr
    refine ⟨I, ?_, hr, fun _ _ _ => rfl⟩
    rw [zb_M_findFeints_49, h4, if_neg (by omega)]
  | succ m ih =>
    intro s r o4 o5 I hs hT hr
    have hss : (s : Int) < ((2 ^ zmany T : Nat) : Int) := by omega
    have hsm : s < 1000000 := by omega
    have e1 : I 136 2 = T.1 2 := hT.1 2 (by omega)
    have e2 : I 136 1 = (T.2.1 : Int) := hT.2.1
    have hl := zm_ff_l (X := X) (d := d) hL ho hT (p := p) (k := (zmany T : Int)) (show s < 1024 by omega) T.2.1 0 (T.1 2) (by omega) ho.2.1.1
    have hl : _ = zgo X (zcal X zP (d + 3)) zc_M_findFeints 67 [some (.inr (.inr (.inl 135))), some (.inl p), some (.inl (zmany T : Int)), some (.inl (s : Int)), some (.inl (zpf T s)), some (.inl (T.2.1 : Int))] [] (I, L) := hl
    have hnn : ¬ (T.2.1 : Int) < (T.2.1 : Int) := Int.lt_irrefl _
    obtain ⟨a1, a2, a3, a4⟩ := hr
    have key : zgo X (zcal X zP (d + 3)) zc_M_findFeints 49 [some (.inr (.inr (.inl 135))), some (.inl p), some (.inl (zmany T : Int)), some (.inl (s : Int)), o4, o5] [] (I, L) = zgo X (zcal X zP (d + 3)) zc_M_findFeints 67 [some (.inr (.inr (.inl 135))), some (.inl p), some (.inl (zmany T : Int)), some (.inl (s : Int)), some (.inl (T.1 2)), some (.inl 0)] [] (I, L) := by
      rw [zb_M_findFeints_49, h4, if_pos hss]
      simp only [if_true, if_false, Option.bind_some, Option.bind, Option.toList, List.cons_append, List.nil_append, zite0, zite1, zite01, znn, ite_not, true_or, or_true, true_and, and_true, zn10, zn00, zk_135 hL, zr_135_0 hL, z6_0 hL, z6_1 hL, z6_2 hL, z6_3 hL, z6_4 hL, e1]
    have key := key.trans hl
    rw [zfor_s]
    by_cases c : zpf T s = p
    · have eg : zgm T p s r = (w32 (r.1 + 1), (if r.1 = 0 then (s : Int) else r.2.1, (zand r.2.2.1 (s : Int), zor r.2.2.2 (s : Int)))) := if_pos c
      rw [eg]
      obtain ⟨I', b1, b2, b3⟩ := ih (s + 1) (w32 (r.1 + 1), (if r.1 = 0 then (s : Int) else r.2.1, (zand r.2.2.1 (s : Int), zor r.2.2.2 (s : Int)))) (some (.inl (zpf T s))) (some (.inl (T.2.1 : Int))) (zwI (zwI (zwI (zwI I 135 16 (if r.1 = 0 then (s : Int) else r.2.1)) 135 15 (w32 (r.1 + 1))) 135 17 (zand r.2.2.1 (s : Int))) 135 18 (zor r.2.2.2 (s : Int))) (by omega) (zTM_row (by rw [zwI_row (by decide), zwI_row (by decide), zwI_row (by decide), zwI_row (by decide)]) hT) ⟨by rw [r7, r8, zwI_eq], by rw [r9, r10, r11, zwI_eq], by rw [r12, zwI_eq], zwI_eq⟩
      refine ⟨I', key.trans ?_, b2, fun a j h => (b3 a j h).trans (by rw [zwI_if, if_neg (by omega), zwI_if, if_neg (by omega), zwI_if, if_neg (by omega), zwI_if, if_neg (by omega)])⟩
      rw [zb_M_findFeints_67]
      by_cases c0 : r.1 = 0
      · rw [if_pos c0] at b1
        simp only [if_true, if_false, Option.bind_some, Option.bind, Option.toList, List.cons_append, List.nil_append, zite0, zite1, zite01, znn, ite_not, true_or, or_true, true_and, and_true, zn10, zn00, zk_135 hL, zr_135_0 hL, z6_0 hL, z6_1 hL, z6_2 hL, z6_3 hL, z6_4 hL, e2, eq_false hnn, eq_true c, a1, eq_true c0, zw_I, r1, r2, r3, r4, r5, r6, a3, a4]
        rw [zw32n hsm]
        exact b1
      · rw [if_neg c0] at b1
        simp only [if_true, if_false, Option.bind_some, Option.bind, Option.toList, List.cons_append, List.nil_append, zite0, zite1, zite01, znn, ite_not, true_or, or_true, true_and, and_true, zn10, zn00, zk_135 hL, zr_135_0 hL, z6_0 hL, z6_1 hL, z6_2 hL, z6_3 hL, z6_4 hL, e2, eq_false hnn, eq_true c, a1, a2, eq_false c0, zw_I, r1, r2, r3, r4, r5, r6, a3, a4]
        rw [zw32n hsm]
        exact b1
    · have eg : zgm T p s r = r := if_neg c
      rw [eg]
      obtain ⟨I', b1, b2, b3⟩ := ih (s + 1) r (some (.inl (zpf T s))) (some (.inl (T.2.1 : Int))) I (by omega) hT ⟨a1, a2, a3, a4⟩
      refine ⟨I', key.trans ?_, b2, b3⟩
      rw [zb_M_findFeints_67]
      simp only [if_true, if_false, Option.bind_some, Option.bind, Option.toList, List.cons_append, List.nil_append, zite0, zite1, zite01, znn, ite_not, true_or, or_true, true_and, and_true, zn10, zn00, zk_135 hL, zr_135_0 hL, z6_0 hL, z6_1 hL, z6_2 hL, z6_3 hL, z6_4 hL, e2, eq_false hnn, eq_false c]
      rw [zw32n hsm]
      exact b1
theorem zq_M_findFeints (hL : zLay L) (ho : zTOK n T) (hT : zTM I 136 T) {p : Int} : ∃ I', zcal X zP (d + 4) 188 [.inr (.inr (.inl 135)), .inl p] (I, L) = some (none, (I', L)) ∧ zr4 I' (zfor (zgm T p) (2 ^ zmany T) 0 (0, (0, (zallb T, 0)))) ∧ ∀ a j, (a ≠ 135 ∨ j < 15 ∨ 18 < j) → I' a j = I a j := by
  have e2 : I 136 1 = (T.2.1 : Int) := hT.2.1
  obtain ⟨I', b1, b2, b3⟩ := zm_ff_o (X := X) (d := d) hL ho (p := p) (2 ^ zmany T) 0 (0, (0, (zallb T, 0))) none none (zwI (zwI (zwI (zwI I 135 15 0) 135 16 0) 135 17 (zallb T)) 135 18 0) (by omega) (zTM_row (by rw [zwI_row (by decide), zwI_row (by decide), zwI_row (by decide), zwI_row (by decide)]) hT) ⟨by rw [zwI_nej (by decide), zwI_nej (by decide), zwI_nej (by decide), zwI_eq], by rw [zwI_nej (by decide), zwI_nej (by decide), zwI_eq], by rw [zwI_nej (by decide), zwI_eq], zwI_eq⟩
  refine ⟨I', ?_, b2, fun a j h => (b3 a j h).trans (by rw [zwI_if, if_neg (by omega), zwI_if, if_neg (by omega), zwI_if, if_neg (by omega), zwI_if, if_neg (by omega)])⟩
  by_cases c : T.2.1 < 10
  · have em : zmany T = T.2.1 := if_neg (by omega)
    unfold zallb at b1
    rw [em] at b1
    refine ((zcal_go zp_M_findFeints rfl).trans zb_M_findFeints_0).trans ?_
    simp only [if_true, if_false, Option.bind_some, Option.bind, Option.toList, List.cons_append, List.nil_append, zite0, zite1, zite01, znn, ite_not, true_or, or_true, true_and, and_true, zn10, zn00, zk_135 hL, zr_135_0 hL, z6_0 hL, z6_1 hL, z6_2 hL, z6_3 hL, z6_4 hL, e2, eq_true (show (T.2.1 : Int) < 10 by omega), zw_I]
    exact b1
  · have em : zmany T = 10 := by unfold zmany; split <;> omega
    unfold zallb at b1
    rw [em] at b1
    refine ((zcal_go zp_M_findFeints rfl).trans zb_M_findFeints_0).trans ?_
    simp only [if_true, if_false, Option.bind_some, Option.bind, Option.toList, List.cons_append, List.nil_append, zite0, zite1, zite01, znn, ite_not, true_or, or_true, true_and, and_true, zn10, zn00, zk_135 hL, zr_135_0 hL, z6_0 hL, z6_1 hL, z6_2 hL, z6_3 hL, z6_4 hL, e2, eq_false (show ¬ (T.2.1 : Int) < 10 by omega), zw_I]
    exact b1
theorem zm_feints (hL : zLay L) (ho : zSOK n S) {p : Int} : zHM X L (d + 5) 190 [.inl p] S (zr_feints S p) := by
  intro I hr
  have hb := zq_M_isWhere (X := X) (d := d + 2) (v := p) hL hr.1 ho.1
  unfold zr_feints
  by_cases hp : -1 ≤ p ∧ p ≤ S.1.1 0 - 1
  · rw [if_pos hp] at hb ⊢
    obtain ⟨I', q1, q2, q3⟩ := zq_M_findFeints (X := X) (d := d) hL ho.1 hr.1 (p := p)
    have e15 : I' 135 15 = zfor (zfc S.1 p) (2 ^ zmany S.1) 0 0 := q2.1.trans (zgm_c _ _ _)
    refine ⟨I', ?_, zRM_sc2 (fun a j _ _ h => q3 a j (by omega)) hr, fun a ha => funext fun j => q3 a j (by omega)⟩
    refine ((zcal_go zp_M_feints rfl).trans zb_M_feints_0).trans ?_
    simp only [if_true, if_false, Option.bind_some, Option.bind, Option.toList, List.cons_append, List.nil_append, zite0, zite1, zite01, znn, ite_not, true_or, or_true, true_and, and_true, zn10, zn00, zk_135 hL, zr_135_0 hL, z6_0 hL, z6_1 hL, z6_2 hL, z6_3 hL, z6_4 hL, hb, zb_M_feints_5, q1, zb_M_feints_19, e15]
  · rw [if_neg hp] at hb ⊢
    obtain ⟨J, h1, h2, h3⟩ := zM_findsc (X := X) (d := d + 3) (k := 0) (c := -1000001) (k' := 0) hL ho (by omega) (by omega) (by omega) hr
    refine ⟨J, ?_, h2, h3⟩
    refine ((zcal_go zp_M_feints rfl).trans zb_M_feints_0).trans ?_
    simp only [if_true, if_false, Option.bind_some, Option.bind, Option.toList, List.cons_append, List.nil_append, zite0, zite1, zite01, znn, ite_not, true_or, or_true, true_and, and_true, zn10, zn00, zk_135 hL, zr_135_0 hL, z6_0 hL, z6_1 hL, z6_2 hL, z6_3 hL, z6_4 hL, hb, zb_M_feints_5, h1, zb_M_feints_13]
theorem zm_surely (hL : zLay L) (ho : zSOK n S) {p w : Int} : zHM X L (d + 5) 191 [.inl p, .inl w] S (zr_surely S p w) := by
  intro I hr
  have hb := zq_M_isWhere (X := X) (d := d + 2) (v := p) hL hr.1 ho.1
  have hc := zq_M_in (X := X) (d := d + 3) (σ := (I, L)) (v := w) (a := 0) (b := 2)
  obtain ⟨J, h1, h2, h3⟩ := zM_findsc (X := X) (d := d + 3) (k := 0) (c := -1000001) (k' := 0) hL ho (by omega) (by omega) (by omega) hr
  unfold zr_surely
  by_cases hp : -1 ≤ p ∧ p ≤ S.1.1 0 - 1
  · rw [if_pos hp] at hb
    by_cases hw : 0 ≤ w ∧ w ≤ 2
    · rw [if_pos hw] at hc
      rw [if_pos ⟨hp, hw⟩]
      obtain ⟨I', q1, q2, q3⟩ := zq_M_findFeints (X := X) (d := d) hL ho.1 hr.1 (p := p)
      have hR := zgR_n (T := S.1) (p := p) (2 ^ zmany S.1) 0 (-1, (0, 0)) (0, (0, (zallb S.1, 0))) (Nat.le_of_eq (Nat.zero_add _)) zgR_0
      have hr' : zRM I' S := zRM_sc2 (fun a j _ _ h => q3 a j (by omega)) hr
      have es : zfor (zgx S.1 p) (2 ^ zmany S.1) 0 (-1, (0, 0)) = zsur S.1 p := rfl
      rw [es] at hR
      generalize zfor (zgm S.1 p) (2 ^ zmany S.1) 0 (0, (0, (zallb S.1, 0))) = r at q2 hR
      obtain ⟨b1, b2, b3, b4⟩ := q2
      obtain ⟨g1, g2⟩ := hR
      rcases g2 with ⟨g2, g3, -⟩ | ⟨g2, g3, g4, -, g5⟩
      · rw [if_pos g2]
        rw [g3] at b1
        obtain ⟨J, h1, h2, h3⟩ := zM_findsc (X := X) (d := d + 3) (k := 3) (c := -1000004) (k' := 3) hL ho (by omega) (by omega) (by omega) hr'
        refine ⟨J, ?_, h2, fun a ha => (h3 a ha).trans (funext fun j => q3 a j (by omega))⟩
        refine ((zcal_go zp_M_surely rfl).trans zb_M_surely_0).trans ?_
        simp only [if_true, if_false, Option.bind_some, Option.bind, Option.toList, List.cons_append, List.nil_append, zite0, zite1, zite01, znn, ite_not, true_or, or_true, true_and, and_true, zn10, zn00, zk_135 hL, zr_135_0 hL, z6_0 hL, z6_1 hL, z6_2 hL, z6_3 hL, z6_4 hL, hb, hc, zb_M_surely_5, zb_M_surely_17, q1, zb_M_surely_31, b1, h1, zb_M_surely_43]
      · rw [if_neg (by omega), g3, g5, g1]
        have gn : ¬ r.1 = 0 := by omega
        refine ⟨I', ?_, hr', fun a ha => funext fun j => q3 a j (by omega)⟩
        refine ((zcal_go zp_M_surely rfl).trans zb_M_surely_0).trans ?_
        simp only [if_true, if_false, Option.bind_some, Option.bind, Option.toList, List.cons_append, List.nil_append, zite0, zite1, zite01, znn, ite_not, true_or, or_true, true_and, and_true, zn10, zn00, zk_135 hL, zr_135_0 hL, z6_0 hL, z6_1 hL, z6_2 hL, z6_3 hL, z6_4 hL, hb, hc, zb_M_surely_5, zb_M_surely_17, q1, zb_M_surely_31, b1, b2, b3, b4, eq_false gn]
        split
        · rfl
        · split <;> rfl
    · rw [if_neg hw] at hc
      rw [if_neg (fun h => hw h.2)]
      refine ⟨J, ?_, h2, h3⟩
      refine ((zcal_go zp_M_surely rfl).trans zb_M_surely_0).trans ?_
      simp only [if_true, if_false, Option.bind_some, Option.bind, Option.toList, List.cons_append, List.nil_append, zite0, zite1, zite01, znn, ite_not, true_or, or_true, true_and, and_true, zn10, zn00, zk_135 hL, zr_135_0 hL, z6_0 hL, z6_1 hL, z6_2 hL, z6_3 hL, z6_4 hL, hb, hc, zb_M_surely_5, zb_M_surely_17, h1, zb_M_surely_25]
  · rw [if_neg hp] at hb
    rw [if_neg (fun h => hp h.1)]
    refine ⟨J, ?_, h2, h3⟩
    refine ((zcal_go zp_M_surely rfl).trans zb_M_surely_0).trans ?_
    simp only [if_true, if_false, Option.bind_some, Option.bind, Option.toList, List.cons_append, List.nil_append, zite0, zite1, zite01, znn, ite_not, true_or, or_true, true_and, and_true, zn10, zn00, zk_135 hL, zr_135_0 hL, z6_0 hL, z6_1 hL, z6_2 hL, z6_3 hL, z6_4 hL, hb, zb_M_surely_5, h1, zb_M_surely_25]
theorem zo_feints (ho : zSOK n S) (hn : n < 100000) {p : Int} : zSOK (n + 1) (zr_feints S p).2 := by
  unfold zr_feints
  exact zif2 (fun _ => zSOK_up ho hn) (fun _ => zSOK_f ho (by omega) hn)
theorem zo_surely (ho : zSOK n S) (hn : n < 100000) {p w : Int} : zSOK (n + 1) (zr_surely S p w).2 := by
  unfold zr_surely
  exact zif2 (fun _ => zif2 (fun _ => zSOK_f ho (by omega) hn) (fun _ => zSOK_up ho hn)) (fun _ => zSOK_f ho (by omega) hn)
theorem zA21 (hL : zLay L) : zA_21 X L := fun n a1 _ S ho hn => zCI (zr_feints S a1) (by unfold zr_feints; exact zif1 ⟨_, rfl⟩ ⟨_, rfl⟩) (zx_feints (d := 34) hL ho) (zm_feints (d := 35) hL ho) (zo_feints ho hn)
theorem zA22 (hL : zLay L) : zA_22 X L := fun n a1 a2 _ _ S ho hn => zCI (zr_surely S a1 a2) (by unfold zr_surely; repeat' (first | exact ⟨_, rfl⟩ | refine zif1 ?_ ?_)) (zx_surely (d := 34) hL ho) (zm_surely (d := 35) hL ho) (zo_surely ho hn)
end
