/-! CONTRACTS OF CALLS: best, should, richest: the reference's half. -/
set_option maxRecDepth 20000 in
theorem zbt7 : ∀ s : Nat, s < 1024 → ((zand (s : Int) 1 = 1 ↔ s % 2 = 1) ∧ (zand (s : Int) 1 = 0 ↔ ¬ s % 2 = 1)) := by decide +kernel
theorem zbt8 : ∀ k : Nat, k < 11 → 2 ^ k ≤ 1024 := by decide
section
variable {X : zX} {C : zC} {d n : Nat} {L : zLt} {S : zSt} {T : zTb} {I : Nat → Nat → Int}
theorem zq_M_w2 (hL : zLay L) {p : Nat} (hp : p < 4) : zcal X zP (d + 1) 195 [.inr (.inr (.inl 135)), .inl (p : Int), .inl 2] (I, L) = some (some (.inl (I 136 (57 + 4 * p))), (I, L)) := by
  rw [show 57 + 4 * p = 55 + 4 * p + 2 by omega]
  exact zq_M_whoseI (w := 2) hL hp (by omega)
theorem zq_M_leftT (hL : zLay L) (hT : zTM I 136 T) (ho : zTOK n T) {p : Nat} (hp : p < 4) : zcal X zP (d + 2) 197 [.inr (.inr (.inl 135)), .inl (p : Int)] (I, L) = some (some (.inl (zgn (T.1 (57 + 4 * p)) (zpq T p))), (I, L)) := by
  have q0 : I 136 (55 + 4 * p) = T.1 (55 + 4 * p) := hT.1 _ (by omega)
  have q2 : I 136 (57 + 4 * p) = T.1 (57 + 4 * p) := hT.1 _ (by omega)
  have q3 : I 136 (58 + 4 * p) = T.1 (58 + 4 * p) := hT.1 _ (by omega)
  have hb := (ho.2.2.2.2.2.2.2.1 p hp).1.1
  refine ((zcal_go zp_M_hasLeft rfl).trans zb_M_hasLeft_0).trans ?_
  simp only [if_true, if_false, Option.bind_some, Option.bind, Option.toList, List.cons_append, List.nil_append, zite0, zite1, zite01, znn, ite_not, true_or, or_true, true_and, and_true, zn10, zn00, zk_135 hL, zr_135_0 hL, z6_0 hL, z6_1 hL, z6_2 hL, z6_3 hL, z6_4 hL, zq_M_w3 hL hp, q3, zb_M_hasLeft_6, zq_M_w2 hL hp, q2, zb_M_hasLeft_12, zq_M_w0 hL hp, q0, zb_M_hasLeft_21]
  show _ = some (some (Sum.inl (zgone (T.1 (55 + 4 * p)) (T.1 (58 + 4 * p)) (T.1 (57 + 4 * p)))), (I, L))
  unfold zgone
  split
  · by_cases h : T.1 (55 + 4 * p) = 0
    · rw [if_pos h, if_neg (by omega)]
    · rw [if_neg h, if_pos (by omega)]
  · rfl
theorem zrnd_q {p : Nat} {w : Int} : zpq (zrnd T p w) p = znx w (zpq T p) ∧ (zrnd T p w).1 (57 + 4 * p) = T.1 (57 + 4 * p) ∧ (zrnd T p w).1 4 = T.1 4 + zdl w (zpq T p) := by
  have a0 : (zrnd T p w).1 (55 + 4 * p) = (znx w (zpq T p)).1 := by
    unfold zrnd
    rw [zTset_hi (by omega), zTset_hi (by omega), zTset_hi (by omega), zTset_eq]
    rfl
  have a1 : (zrnd T p w).1 (56 + 4 * p) = (znx w (zpq T p)).2.1 := by
    unfold zrnd
    rw [zTset_hi (by omega), zTset_hi (by omega), zTset_eq]
    rfl
  have a3 : (zrnd T p w).1 (58 + 4 * p) = (znx w (zpq T p)).2.2 := by
    unfold zrnd
    rw [zTset_hi (by omega), zTset_eq]
    rfl
  refine ⟨?_, ?_, ?_⟩
  · show ((zrnd T p w).1 (55 + 4 * p), ((zrnd T p w).1 (56 + 4 * p), (zrnd T p w).1 (58 + 4 * p))) = _
    rw [a0, a1, a3]
  · unfold zrnd
    rw [zTset_hi (by omega), zTset_hi (by omega), zTset_hi (by omega), zTset_hi (by omega)]
  · unfold zrnd
    rw [zTset_eq]
    show _ = T.1 4 + (if w = 0 then zstk (T.1 (55 + 4 * p)) (T.1 (56 + 4 * p)) else - zstk (T.1 (55 + 4 * p)) (T.1 (56 + 4 * p)))
    by_cases c : w = 0
    · rw [if_pos c, if_pos c]
    · rw [if_neg c, if_neg c, Int.sub_eq_add_neg]
/-- where the tries keep what they found: (by a loss, by a win) -/
def zr2 (I : Nat → Nat → Int) (r : Int × Int) : Prop := I 135 20 = r.1 ∧ I 135 21 = r.2
def zupd (odd : Prop) [Decidable odd] (r : Int × Int) (g : Int) : Int × Int := if odd then (r.1, if r.2 < g then g else r.2) else (if r.1 < g then g else r.1, r.2)
theorem zm_tr_78 (hL : zLay L) {p N row k g : Int} {o5 o6 : Option zV} {s0 : Int} {r : Int × Int} (hd : w32 (I 136 4 - I 137 4) = g) (hr : zr2 I r) (h1 : (zand row 1 = 1 ∧ ¬ zand row 1 = 0) ∨ (¬ zand row 1 = 1 ∧ zand row 1 = 0)) : ∃ I', zgo X C zc_M_tries 78 [some (.inr (.inr (.inl 135))), some (.inl p), some (.inl N), some (.inl row), some (.inl k), o5, o6] [.inl s0] (I, L) = zgo X C zc_M_tries 44 [some (.inr (.inr (.inl 135))), some (.inl p), some (.inl N), some (.inl row), some (.inl (w32 (k + 1))), some (.inl s0), some (.inl g)] [] (I', L) ∧ zr2 I' (zupd (zand row 1 = 1) r g) ∧ ∀ a j, (a ≠ 135 ∨ j < 20 ∨ 21 < j) → I' a j = I a j := by
  obtain ⟨a1, a2⟩ := hr
  have z4 : ((L.2.1 137).1 = 2 ∧ 0 ≤ (4 : Int) ∧ (4 : Int) < ((L.2.1 137).2.1 : Int)) = True := by
    rw [zk_137 hL]
    exact eq_true ⟨rfl, by decide, by decide⟩
  have r1 : ∀ v, zwI I 135 21 v 135 20 = r.1 := fun v => (zwI_nej (by decide)).trans a1
  have fr : ∀ u v a j, (a ≠ 135 ∨ j < 20 ∨ 21 < j) → zwI (zwI I 135 21 u) 135 20 v a j = I a j := fun u v a j h => by rw [zwI_if, if_neg (by omega), zwI_if, if_neg (by omega)]
  have rd : ∀ u v, zr2 (zwI (zwI I 135 21 u) 135 20 v) (v, u) := fun u v => ⟨zwI_eq, (zwI_nej (by decide)).trans zwI_eq⟩
  rcases h1 with ⟨b1, b0⟩ | ⟨b1, b0⟩
  · by_cases c : r.2 < g
    · have e : zupd (zand row 1 = 1) r g = (r.1, g) := by unfold zupd; rw [if_pos b1, if_pos c]
      rw [e]
      refine ⟨_, ?_, rd g r.1, fr g r.1⟩
      rw [zb_M_tries_78]
      simp only [if_true, if_false, Option.bind_some, Option.bind, Option.toList, List.cons_append, List.nil_append, zite0, zite1, zite01, znn, ite_not, true_or, or_true, true_and, and_true, zn10, zn00, zk_135 hL, zr_135_0 hL, z6_0 hL, z6_1 hL, z6_2 hL, z6_3 hL, z6_4 hL, zr_135_1 hL, z4, eq_true b1, eq_false b0, hd, a2, eq_true c, zw_I, r1]
    · have e : zupd (zand row 1 = 1) r g = (r.1, r.2) := by unfold zupd; rw [if_pos b1, if_neg c]
      rw [e]
      refine ⟨_, ?_, rd r.2 r.1, fr r.2 r.1⟩
      rw [zb_M_tries_78]
      simp only [if_true, if_false, Option.bind_some, Option.bind, Option.toList, List.cons_append, List.nil_append, zite0, zite1, zite01, znn, ite_not, true_or, or_true, true_and, and_true, zn10, zn00, zk_135 hL, zr_135_0 hL, z6_0 hL, z6_1 hL, z6_2 hL, z6_3 hL, z6_4 hL, zr_135_1 hL, z4, eq_true b1, eq_false b0, hd, a2, eq_false c, zw_I, r1]
  · by_cases c : r.1 < g
    · have e : zupd (zand row 1 = 1) r g = (g, r.2) := by unfold zupd; rw [if_neg b1, if_pos c]
      rw [e]
      refine ⟨_, ?_, rd r.2 g, fr r.2 g⟩
      rw [zb_M_tries_78]
      simp only [if_true, if_false, Option.bind_some, Option.bind, Option.toList, List.cons_append, List.nil_append, zite0, zite1, zite01, znn, ite_not, true_or, or_true, true_and, and_true, zn10, zn00, zk_135 hL, zr_135_0 hL, z6_0 hL, z6_1 hL, z6_2 hL, z6_3 hL, z6_4 hL, zr_135_1 hL, z4, eq_false b1, eq_true b0, hd, a2, zw_I, r1, eq_true c]
    · have e : zupd (zand row 1 = 1) r g = (r.1, r.2) := by unfold zupd; rw [if_neg b1, if_neg c]
      rw [e]
      refine ⟨_, ?_, rd r.2 r.1, fr r.2 r.1⟩
      rw [zb_M_tries_78]
      simp only [if_true, if_false, Option.bind_some, Option.bind, Option.toList, List.cons_append, List.nil_append, zite0, zite1, zite01, znn, ite_not, true_or, or_true, true_and, and_true, zn10, zn00, zk_135 hL, zr_135_0 hL, z6_0 hL, z6_1 hL, z6_2 hL, z6_3 hL, z6_4 hL, zr_135_1 hL, z4, eq_false b1, eq_true b0, hd, a2, zw_I, r1, eq_false c]
/-- a row's inner rounds, both kept numbers at once -/
def zin (be : Int) (odd : Bool) (m x : Nat) (q : zPl) (g : Int) (r : Int × Int) : Int × Int := if odd = true then (r.1, zgw be m x q g r.2) else (zgw be m x q g r.1, r.2)
theorem zm_tr_in (hL : zLay L) {p N row : Nat} {base : Int} (hp : p < 4) (hN : N ≤ 10) (hrow : row < 1024) : ∀ (m k x : Nat) (T : zTb) (g : Int) (r : Int × Int) (o5 o6 : Option zV) (I : Nat → Nat → Int), k + m = N → x = row / 2 ^ k → zTM I 136 T → zTOK (n + k) T → n + N ≤ 200000 → I 137 4 = base → T.1 4 = base + g → (-2000 ≤ g ∧ g ≤ 2000 ∧ -99 * (k : Int) ≤ g ∧ g ≤ 99 * (k : Int)) → zr2 I r → ∃ I' o4 o5' o6', zgo X (zcal X zP (d + 2)) zc_M_tries 44 [some (.inr (.inr (.inl 135))), some (.inl (p : Int)), some (.inl (N : Int)), some (.inl (row : Int)), some (.inl (k : Int)), o5, o6] [] (I, L) = zgo X (zcal X zP (d + 2)) zc_M_tries 23 [some (.inr (.inr (.inl 135))), some (.inl (p : Int)), some (.inl (N : Int)), some (.inl ((row + 1 : Nat) : Int)), o4, o5', o6'] [] (I', L) ∧ zr2 I' (zin (T.1 (57 + 4 * p)) (decide (row % 2 = 1)) m x (zpq T p) g r) ∧ ∀ a j, a ≠ 136 → (a ≠ 135 ∨ j < 20 ∨ 21 < j) → I' a j = I a j := by
  intro m
  induction m with
  | zero =>
    intro k x T g r o5 o6 I hk hx hT ho hn hb hg hgb hr
    have hrm : row < 1000000 := by omega
    refine ⟨I, some (.inl (k : Int)), o5, o6, ?_, ?_, fun _ _ _ _ => rfl⟩
    · rw [zb_M_tries_44, if_neg (by omega), zw32n hrm]
    · unfold zin
      split
      · exact hr
      · exact hr
  | succ m ih =>
    intro k x T g r o5 o6 I hk hx hT ho hn hb hg hgb hr
    have hkN : (k : Int) < (N : Int) := by omega
    have hk14 : k < 14 := by omega
    have hkm : k < 1000000 := by omega
    have hrm : row < 1000000 := by omega
    have hlf := zq_M_leftT (X := X) (d := d) hL hT ho hp
    have hz := zbt2 row hrow k hk14
    have h7 := zbt7 row hrow
    by_cases c : zgn (T.1 (57 + 4 * p)) (zpq T p) = 0
    · rw [c] at hlf
      have e2 : row / 2 ^ (k + 1) = x / 2 := by rw [hx, Nat.pow_succ, ← Nat.div_div_eq_div_mul]
      have hw01 : ((x % 2 : Nat) : Int) = 0 ∨ ((x % 2 : Nat) : Int) = 1 := zb01
      obtain ⟨I1, a1, a2, a3⟩ := zq_M_aRound (X := X) (d := d) hL hT ho (by omega) hp hw01
      obtain ⟨z1, z2, z3⟩ := zrnd_q (T := T) (p := p) (w := ((x % 2 : Nat) : Int))
      have hd := zdl_ok (w := ((x % 2 : Nat) : Int)) (zpq_ok ho hp)
      have ho4 := ho.2.2.2.1
      have f4 : I1 136 4 = base + (g + zdl ((x % 2 : Nat) : Int) (zpq T p)) := by
        rw [a2.1 4 (by omega), z3, hg]
        omega
      have f5 : I1 137 4 = base := (a3 _ _ (by omega)).trans hb
      have hr1 : zr2 I1 r := ⟨(a3 _ _ (by omega)).trans hr.1, (a3 _ _ (by omega)).trans hr.2⟩
      have hgd : w32 (I1 136 4 - I1 137 4) = g + zdl ((x % 2 : Nat) : Int) (zpq T p) := by
        rw [f4, f5, show base + (g + zdl ((x % 2 : Nat) : Int) (zpq T p)) - base = g + zdl ((x % 2 : Nat) : Int) (zpq T p) by omega]
        exact zw32 (by omega) (by omega)
      obtain ⟨I2, b1, b2, b3⟩ := zm_tr_78 (X := X) (C := zcal X zP (d + 2)) hL (p := (p : Int)) (N := (N : Int)) (row := (row : Int)) (k := (k : Int)) (o5 := o5) (o6 := o6) (s0 := zstk (T.1 (55 + 4 * p)) (T.1 (56 + 4 * p))) hgd hr1 (by
        by_cases c2 : row % 2 = 1
        · exact Or.inl ⟨h7.1.mpr c2, fun h => h7.2.mp h c2⟩
        · exact Or.inr ⟨fun h => c2 (h7.1.mp h), h7.2.mpr c2⟩)
      have hT2 : zTM I2 136 (zrnd T p ((x % 2 : Nat) : Int)) := zTM_row (funext fun j => b3 136 j (by omega)) a2
      obtain ⟨I', o4, o5', o6', q1, q2, q3⟩ := ih (k + 1) (x / 2) (zrnd T p ((x % 2 : Nat) : Int)) (g + zdl ((x % 2 : Nat) : Int) (zpq T p)) _ (some (.inl (zstk (T.1 (55 + 4 * p)) (T.1 (56 + 4 * p))))) (some (.inl (g + zdl ((x % 2 : Nat) : Int) (zpq T p)))) I2 (by omega) e2.symm hT2 (zTOK_rnd hp ho) hn ((b3 _ _ (by omega)).trans f5) (by rw [z3, hg]; omega) (by omega) b2
      rw [z1, z2] at q2
      refine ⟨I', o4, o5', o6', ?_, ?_, fun a j h1 h2 => (q3 a j h1 h2).trans ((b3 a j h2).trans (a3 a j (by omega)))⟩
      · refine Eq.trans ?_ (b1.trans ?_)
        · rw [zb_M_tries_44, if_pos hkN]
          by_cases c2 : x % 2 = 1
          · have hz1 : zand (zshr (row : Int) (k : Int)) 1 = 1 := hz.mpr (by rw [← hx]; exact c2)
            rw [c2] at a1
            have a1 : zcal X zP (d + 2) 200 [.inr (.inr (.inl 135)), .inl (p : Int), .inl 1] (I, L) = _ := a1
            simp only [if_true, if_false, Option.bind_some, Option.bind, Option.toList, List.cons_append, List.nil_append, zite0, zite1, zite01, znn, ite_not, true_or, or_true, true_and, and_true, zn10, zn00, zk_135 hL, zr_135_0 hL, z6_0 hL, z6_1 hL, z6_2 hL, z6_3 hL, z6_4 hL, hlf, zb_M_tries_55, eq_true hz1, a1]
          · have c3 : x % 2 = 0 := by omega
            have hz1 : ¬ zand (zshr (row : Int) (k : Int)) 1 = 1 := fun h => c2 (by rw [hx]; exact hz.mp h)
            rw [c3] at a1
            have a1 : zcal X zP (d + 2) 200 [.inr (.inr (.inl 135)), .inl (p : Int), .inl 0] (I, L) = _ := a1
            simp only [if_true, if_false, Option.bind_some, Option.bind, Option.toList, List.cons_append, List.nil_append, zite0, zite1, zite01, znn, ite_not, true_or, or_true, true_and, and_true, zn10, zn00, zk_135 hL, zr_135_0 hL, z6_0 hL, z6_1 hL, z6_2 hL, z6_3 hL, z6_4 hL, hlf, zb_M_tries_55, eq_false hz1, a1]
        · rw [zw32n hkm]
          exact q1
      · have ez : zin (T.1 (57 + 4 * p)) (decide (row % 2 = 1)) (m + 1) x (zpq T p) g r = zin (T.1 (57 + 4 * p)) (decide (row % 2 = 1)) m (x / 2) (znx ((x % 2 : Nat) : Int) (zpq T p)) (g + zdl ((x % 2 : Nat) : Int) (zpq T p)) (zupd (zand (row : Int) 1 = 1) r (g + zdl ((x % 2 : Nat) : Int) (zpq T p))) := by
          unfold zin zupd
          rw [zgw_s, zgw_s, if_pos c, if_pos c]
          by_cases c2 : row % 2 = 1
          · rw [if_pos (h7.1.mpr c2), if_pos (decide_eq_true c2), if_pos (decide_eq_true c2)]
          · have hd0 : ¬ (decide (row % 2 = 1) = true) := by rw [decide_eq_true_eq]; exact c2
            rw [if_neg (fun h => c2 (h7.1.mp h)), if_neg hd0, if_neg hd0]
        rw [ez]
        exact q2
    · have hl1 : zgn (T.1 (57 + 4 * p)) (zpq T p) = 1 := (of_eq_true zgone01).resolve_left c
      rw [hl1] at hlf
      refine ⟨I, some (.inl (k : Int)), o5, o6, ?_, ?_, fun _ _ _ _ => rfl⟩
      · rw [zb_M_tries_44, if_pos hkN]
        simp only [if_true, if_false, Option.bind_some, Option.bind, Option.toList, List.cons_append, List.nil_append, zite0, zite1, zite01, znn, ite_not, true_or, or_true, true_and, and_true, zn10, zn00, zk_135 hL, zr_135_0 hL, z6_0 hL, z6_1 hL, z6_2 hL, z6_3 hL, z6_4 hL, hlf, zb_M_tries_55]
        rw [zw32n hrm]
      · unfold zin
        rw [zgw_s, zgw_s, if_neg c, if_neg c]
        split
        · exact hr
        · exact hr
theorem zm_tr_out (hL : zLay L) (ho : zTOK n T) (hn : n + 10 ≤ 200000) {p N : Nat} (hp : p < 4) (hN : N ≤ 10) : ∀ (m row : Nat) (r : Int × Int) (o4 o5 o6 : Option zV) (I : Nat → Nat → Int), row + m = 2 ^ N → zTM I 137 T → zr2 I r → ∃ I', zgo X (zcal X zP (d + 2)) zc_M_tries 23 [some (.inr (.inr (.inl 135))), some (.inl (p : Int)), some (.inl (N : Int)), some (.inl (row : Int)), o4, o5, o6] [] (I, L) = some (none, (I', L)) ∧ zTM I' 136 T ∧ zr2 I' (zfor (zrw (T.1 (57 + 4 * p)) N (zpq T p)) m row r) ∧ ∀ a j, a ≠ 136 → (a ≠ 135 ∨ j < 20 ∨ 21 < j) → I' a j = I a j := by
  have h14 := ho.2.2.2.2.1
  have h5 := zbt8 N (by omega)
  have h4 := zbt4 N (by omega)
  intro m
  induction m with
  | zero =>
    intro row r o4 o5 o6 I hrow hT hr
    obtain ⟨I1, a1, a2, a3⟩ := zq_M_copies (X := X) (d := d + 1) (I := I) (zk_137 hL) (zk_136 hL) (by omega)
    have hns : ¬ (row : Int) < ((2 ^ N : Nat) : Int) := by omega
    refine ⟨I1, ?_, zTM_cp h14 a3 hT, ⟨?_, ?_⟩, fun a j h1 _ => by rw [a2 a h1]⟩
    · rw [zb_M_tries_23, h4, if_neg hns]
      simp only [if_true, if_false, Option.bind_some, Option.bind, Option.toList, List.cons_append, List.nil_append, zite0, zite1, zite01, znn, ite_not, true_or, or_true, true_and, and_true, zn10, zn00, zk_135 hL, zr_135_0 hL, z6_0 hL, z6_1 hL, z6_2 hL, z6_3 hL, z6_4 hL, zr_135_1 hL, a1, zb_M_tries_175]
    · rw [a2 135 (by omega)]; exact hr.1
    · rw [a2 135 (by omega)]; exact hr.2
  | succ m ih =>
    intro row r o4 o5 o6 I hrow hT hr
    obtain ⟨I1, a1, a2, a3⟩ := zq_M_copies (X := X) (d := d + 1) (I := I) (zk_137 hL) (zk_136 hL) (by omega)
    have hT1 := zTM_cp h14 a3 hT
    have hss : (row : Int) < ((2 ^ N : Nat) : Int) := by omega
    have hb : I1 137 4 = T.1 4 := by rw [a2 137 (by omega)]; exact hT.1 4 (by omega)
    obtain ⟨I2, c4, c5, c6, b1, b2, b3⟩ := zm_tr_in (X := X) (d := d) (n := n) hL (p := p) (N := N) (row := row) (base := T.1 4) hp hN (by omega) N 0 row T 0 r o5 o6 I1 (by omega) (by rw [Nat.pow_zero, Nat.div_one]) hT1 ho (by omega) hb (by omega) (by omega) ⟨by rw [a2 135 (by omega)]; exact hr.1, by rw [a2 135 (by omega)]; exact hr.2⟩
    have hT2 : zTM I2 137 T := zTM_row (funext fun j => (b3 137 j (by omega) (by omega)).trans (by rw [a2 137 (by omega)])) hT
    obtain ⟨I', q1, q2, q3, q4⟩ := ih (row + 1) _ c4 c5 c6 I2 (by omega) hT2 b2
    have ez : zin (T.1 (57 + 4 * p)) (decide (row % 2 = 1)) N row (zpq T p) 0 r = zrw (T.1 (57 + 4 * p)) N (zpq T p) row r := by
      unfold zin zrw
      by_cases c2 : row % 2 = 1
      · rw [if_pos c2, if_pos (decide_eq_true c2)]
      · rw [if_neg c2, if_neg (by rw [decide_eq_true_eq]; exact c2)]
    rw [ez] at q3
    refine ⟨I', ?_, q2, q3, fun a j h1 h2 => (q4 a j h1 h2).trans ((b3 a j h1 h2).trans (by rw [a2 a h1]))⟩
    rw [zb_M_tries_23, h4, if_pos hss]
    simp only [if_true, if_false, Option.bind_some, Option.bind, Option.toList, List.cons_append, List.nil_append, zite0, zite1, zite01, znn, ite_not, true_or, or_true, true_and, and_true, zn10, zn00, zk_135 hL, zr_135_0 hL, z6_0 hL, z6_1 hL, z6_2 hL, z6_3 hL, z6_4 hL, zr_135_1 hL, a1, zb_M_tries_41]
    exact b1.trans q1
theorem zq_M_tries (hL : zLay L) (hT : zTM I 136 T) (ho : zTOK n T) (hn : n + 10 ≤ 200000) {p N : Nat} (hp : p < 4) (hN : N ≤ 10) : ∃ I', zcal X zP (d + 3) 203 [.inr (.inr (.inl 135)), .inl (p : Int), .inl (N : Int)] (I, L) = some (none, (I', L)) ∧ zTM I' 136 T ∧ zr2 I' (zfor (zrw (T.1 (57 + 4 * p)) N (zpq T p)) (2 ^ N) 0 (0, 0)) ∧ ∀ a j, a ≠ 136 → a ≠ 137 → (a ≠ 135 ∨ j < 20 ∨ 21 < j) → I' a j = I a j := by
  have h14 := ho.2.2.2.2.1
  obtain ⟨I1, a1, a2, a3⟩ := zq_M_copies (X := X) (d := d + 1) (I := zwI (zwI I 135 20 0) 135 21 0) (zk_136 hL) (zk_137 hL) (by omega)
  have hT1 : zTM I1 137 T := zTM_cp (a := 136) h14 a3 (zTM_row (by rw [zwI_row (by omega), zwI_row (by omega)]) hT)
  have hr1 : zr2 I1 (0, 0) := ⟨by rw [a2 135 (by omega), zwI_nej (by decide), zwI_eq], by rw [a2 135 (by omega), zwI_eq]⟩
  obtain ⟨I', q1, q2, q3, q4⟩ := zm_tr_out (X := X) (d := d) hL ho hn hp hN (2 ^ N) 0 (0, 0) none none none I1 (by omega) hT1 hr1
  refine ⟨I', ?_, q2, q3, fun a j h1 h2 h3 => (q4 a j h1 h3).trans ?_⟩
  · refine ((zcal_go zp_M_tries rfl).trans zb_M_tries_0).trans ?_
    simp only [if_true, if_false, Option.bind_some, Option.bind, Option.toList, List.cons_append, List.nil_append, zite0, zite1, zite01, znn, ite_not, true_or, or_true, true_and, and_true, zn10, zn00, zk_135 hL, zr_135_0 hL, z6_0 hL, z6_1 hL, z6_2 hL, z6_3 hL, z6_4 hL, zr_135_1 hL, zw_I, a1, zb_M_tries_21]
    exact q1
  · rw [a2 a h2, zwI_if, if_neg (by omega), zwI_if, if_neg (by omega)]
/-- what the tries tell -/
def zt2 (T : zTb) (p m : Nat) : Int × Int := zfor (zrw (T.1 (57 + 4 * p)) m (zpq T p)) (2 ^ m) 0 (0, 0)
theorem zt2_ok {p k : Nat} : (if (zt2 T p (k + 1)).1 < (zt2 T p (k + 1)).2 then (zt2 T p (k + 1)).2 else (zt2 T p (k + 1)).1) = zbe T p (k + 1) ∧ (¬ zbe T p (k + 1) = 0 → ((zt2 T p (k + 1)).1 < (zt2 T p (k + 1)).2 ↔ zvf T p (k + 1) 0 < zvf T p (k + 1) 1)) := by
  by_cases hg : zgn (T.1 (57 + 4 * p)) (zpq T p) = 0
  · have e1 : zt2 T p (k + 1) = (zpos (zvf T p (k + 1) 0), zpos (zvf T p (k + 1) 1)) := zrw_all hg
    have e2 : zbe T p (k + 1) = zmx (zvf T p (k + 1) 1) (zvf T p (k + 1) 0) := zmo_s.trans (if_pos hg)
    rw [e1, e2]
    generalize zvf T p (k + 1) 0 = a
    generalize zvf T p (k + 1) 1 = b
    show (if zpos a < zpos b then zpos b else zpos a) = zmx b a ∧ (¬ zmx b a = 0 → (zpos a < zpos b ↔ a < b))
    unfold zpos zmx
    by_cases c1 : b < a
    · rw [if_pos c1]
      by_cases c2 : 0 < a
      · by_cases c3 : 0 < b
        · rw [if_pos c2, if_pos c3, if_neg (by omega)]
          exact ⟨rfl, fun _ => Iff.rfl⟩
        · rw [if_pos c2, if_neg c3, if_neg (by omega)]
          exact ⟨rfl, fun _ => by omega⟩
      · rw [if_neg c2, if_neg (show ¬ 0 < b by omega), if_neg (by omega)]
        exact ⟨rfl, fun h => absurd rfl h⟩
    · rw [if_neg c1]
      by_cases c2 : 0 < b
      · by_cases c3 : 0 < a
        · rw [if_pos c2, if_pos c3]
          refine ⟨?_, fun _ => Iff.rfl⟩
          split <;> omega
        · rw [if_pos c2, if_neg c3, if_pos (by omega)]
          exact ⟨rfl, fun _ => by omega⟩
      · rw [if_neg c2, if_neg (show ¬ 0 < a by omega), if_neg (by omega)]
        exact ⟨rfl, fun h => absurd rfl h⟩
  · have e1 : zt2 T p (k + 1) = (0, 0) := zrw_gone hg _ _ _
    have e2 : zbe T p (k + 1) = 0 := zmo_s.trans (if_neg hg)
    rw [e1, e2]
    exact ⟨rfl, fun h => absurd rfl h⟩
theorem zq_M_bestOf (hL : zLay L) (ho : zSOK n S) (hn : n < 100000) (hr : zRM I S) {p k : Nat} (hp : p < 4) (hk : k + 1 ≤ 10) : ∃ I', zcal X zP (d + 4) 204 [.inr (.inr (.inl 135)), .inl (p : Int), .inl ((k + 1 : Nat) : Int)] (I, L) = some (some (.inl (zbe S.1 p (k + 1))), (I', L)) ∧ zRM I' S ∧ zr2 I' (zt2 S.1 p (k + 1)) ∧ ∀ a, a < 135 → I' a = I a := by
  obtain ⟨I', q1, q2, q3, q4⟩ := zq_M_tries (X := X) (d := d) hL hr.1 ho.1 (by omega) hp hk
  have q3 : zr2 I' (zt2 S.1 p (k + 1)) := q3
  refine ⟨I', ?_, zRM_T (T := S.1) ⟨q4 _ _ (by omega) (by omega) (by omega), q4 _ _ (by omega) (by omega) (by omega), funext fun j => q4 _ _ (by omega) (by omega) (by omega), funext fun j => q4 _ _ (by omega) (by omega) (by omega), funext fun j => q4 _ _ (by omega) (by omega) (by omega), funext fun j => q4 _ _ (by omega) (by omega) (by omega), funext fun j => q4 _ _ (by omega) (by omega) (by omega), funext fun j => q4 _ _ (by omega) (by omega) (by omega)⟩ q2 hr, q3, fun a ha => funext fun j => q4 a j (by omega) (by omega) (by omega)⟩
  obtain ⟨b1, b2⟩ := q3
  have hz := (zt2_ok (T := S.1) (p := p) (k := k)).1
  refine ((zcal_go zp_M_bestOf rfl).trans zb_M_bestOf_0).trans ?_
  simp only [if_true, if_false, Option.bind_some, Option.bind, Option.toList, List.cons_append, List.nil_append, zite0, zite1, zite01, znn, ite_not, true_or, or_true, true_and, and_true, zn10, zn00, zk_135 hL, zr_135_0 hL, z6_0 hL, z6_1 hL, z6_2 hL, z6_3 hL, z6_4 hL, q1, zb_M_bestOf_6, b1, b2]
  rw [← hz]
  split <;> rfl
theorem zm_best (hL : zLay L) (ho : zSOK n S) (hn : n < 100000) {p m : Int} : zHM X L (d + 5) 205 [.inl p, .inl m] S (zr_best S p m) := by
  intro I hr
  have hb := zq_M_isFour (X := X) (d := d + 2) (σ := (I, L)) (v := p)
  have hc := zq_M_in (X := X) (d := d + 3) (σ := (I, L)) (v := m) (a := 1) (b := 10)
  obtain ⟨J, h1, h2, h3⟩ := zM_findsc (X := X) (d := d + 3) (k := 0) (c := -1000001) (k' := 0) hL ho (by omega) (by omega) (by omega) hr
  unfold zr_best
  by_cases hp : 0 ≤ p ∧ p ≤ 3
  · rw [if_pos hp] at hb
    by_cases hm : 1 ≤ m ∧ m ≤ 10
    · rw [if_pos hm] at hc
      rw [if_pos ⟨hp, hm⟩]
      obtain ⟨p, rfl⟩ := Int.eq_ofNat_of_zero_le hp.1
      obtain ⟨m, rfl⟩ := Int.eq_ofNat_of_zero_le (show 0 ≤ m by omega)
      rw [Int.toNat_natCast, Int.toNat_natCast]
      obtain ⟨k, rfl⟩ : ∃ k, m = k + 1 := ⟨m - 1, by omega⟩
      obtain ⟨I', q1, q2, q3, q4⟩ := zq_M_bestOf (X := X) (d := d) hL ho hn hr (show p < 4 by omega) (show k + 1 ≤ 10 by omega)
      refine ⟨I', ?_, q2, q4⟩
      refine ((zcal_go zp_M_best rfl).trans zb_M_best_0).trans ?_
      simp only [if_true, if_false, Option.bind_some, Option.bind, Option.toList, List.cons_append, List.nil_append, zite0, zite1, zite01, znn, ite_not, true_or, or_true, true_and, and_true, zn10, zn00, zk_135 hL, zr_135_0 hL, z6_0 hL, z6_1 hL, z6_2 hL, z6_3 hL, z6_4 hL, hb, hc, zb_M_best_4, zb_M_best_16, q1, zb_M_best_25, zb_M_best_33]
    · rw [if_neg hm] at hc
      rw [if_neg (fun h => hm h.2)]
      refine ⟨J, ?_, h2, h3⟩
      refine ((zcal_go zp_M_best rfl).trans zb_M_best_0).trans ?_
      simp only [if_true, if_false, Option.bind_some, Option.bind, Option.toList, List.cons_append, List.nil_append, zite0, zite1, zite01, znn, ite_not, true_or, or_true, true_and, and_true, zn10, zn00, zk_135 hL, zr_135_0 hL, z6_0 hL, z6_1 hL, z6_2 hL, z6_3 hL, z6_4 hL, hb, hc, zb_M_best_4, zb_M_best_16, h1, zb_M_best_33]
  · rw [if_neg hp] at hb
    rw [if_neg (fun h => hp h.1)]
    refine ⟨J, ?_, h2, h3⟩
    refine ((zcal_go zp_M_best rfl).trans zb_M_best_0).trans ?_
    simp only [if_true, if_false, Option.bind_some, Option.bind, Option.toList, List.cons_append, List.nil_append, zite0, zite1, zite01, znn, ite_not, true_or, or_true, true_and, and_true, zn10, zn00, zk_135 hL, zr_135_0 hL, z6_0 hL, z6_1 hL, z6_2 hL, z6_3 hL, z6_4 hL, hb, zb_M_best_4, h1, zb_M_best_33]
theorem zm_should (hL : zLay L) (ho : zSOK n S) (hn : n < 100000) {p m : Int} : zHM X L (d + 5) 206 [.inl p, .inl m] S (zr_should S p m) := by
  intro I hr
  have hb := zq_M_isFour (X := X) (d := d + 2) (σ := (I, L)) (v := p)
  have hc := zq_M_in (X := X) (d := d + 3) (σ := (I, L)) (v := m) (a := 1) (b := 10)
  obtain ⟨J, h1, h2, h3⟩ := zM_findsc (X := X) (d := d + 3) (k := 0) (c := -1000001) (k' := 0) hL ho (by omega) (by omega) (by omega) hr
  unfold zr_should
  by_cases hp : 0 ≤ p ∧ p ≤ 3
  · rw [if_pos hp] at hb
    by_cases hm : 1 ≤ m ∧ m ≤ 10
    · rw [if_pos hm] at hc
      rw [if_pos ⟨hp, hm⟩]
      obtain ⟨p, rfl⟩ := Int.eq_ofNat_of_zero_le hp.1
      obtain ⟨m, rfl⟩ := Int.eq_ofNat_of_zero_le (show 0 ≤ m by omega)
      rw [Int.toNat_natCast, Int.toNat_natCast]
      obtain ⟨k, rfl⟩ : ∃ k, m = k + 1 := ⟨m - 1, by omega⟩
      obtain ⟨I', q1, q2, ⟨b1, b2⟩, q4⟩ := zq_M_bestOf (X := X) (d := d) hL ho hn hr (show p < 4 by omega) (show k + 1 ≤ 10 by omega)
      have hz := (zt2_ok (T := S.1) (p := p) (k := k)).2
      refine ⟨I', ?_, q2, q4⟩
      by_cases c : zbe S.1 p (k + 1) = 0
      · rw [if_pos c]
        refine ((zcal_go zp_M_should rfl).trans zb_M_should_0).trans ?_
        simp only [if_true, if_false, Option.bind_some, Option.bind, Option.toList, List.cons_append, List.nil_append, zite0, zite1, zite01, znn, ite_not, true_or, or_true, true_and, and_true, zn10, zn00, zk_135 hL, zr_135_0 hL, z6_0 hL, z6_1 hL, z6_2 hL, z6_3 hL, z6_4 hL, hb, hc, zb_M_should_4, zb_M_should_16, q1, zb_M_should_31, eq_true c]
      · rw [if_neg c]
        have hz := hz c
        by_cases c2 : (zt2 S.1 p (k + 1)).1 < (zt2 S.1 p (k + 1)).2
        · rw [if_pos (hz.mp c2)]
          refine ((zcal_go zp_M_should rfl).trans zb_M_should_0).trans ?_
          simp only [if_true, if_false, Option.bind_some, Option.bind, Option.toList, List.cons_append, List.nil_append, zite0, zite1, zite01, znn, ite_not, true_or, or_true, true_and, and_true, zn10, zn00, zk_135 hL, zr_135_0 hL, z6_0 hL, z6_1 hL, z6_2 hL, z6_3 hL, z6_4 hL, hb, hc, zb_M_should_4, zb_M_should_16, q1, zb_M_should_31, eq_false c, b1, b2, eq_true c2]
        · rw [if_neg (fun h => c2 (hz.mpr h))]
          refine ((zcal_go zp_M_should rfl).trans zb_M_should_0).trans ?_
          simp only [if_true, if_false, Option.bind_some, Option.bind, Option.toList, List.cons_append, List.nil_append, zite0, zite1, zite01, znn, ite_not, true_or, or_true, true_and, and_true, zn10, zn00, zk_135 hL, zr_135_0 hL, z6_0 hL, z6_1 hL, z6_2 hL, z6_3 hL, z6_4 hL, hb, hc, zb_M_should_4, zb_M_should_16, q1, zb_M_should_31, eq_false c, b1, b2, eq_false c2]
    · rw [if_neg hm] at hc
      rw [if_neg (fun h => hm h.2)]
      refine ⟨J, ?_, h2, h3⟩
      refine ((zcal_go zp_M_should rfl).trans zb_M_should_0).trans ?_
      simp only [if_true, if_false, Option.bind_some, Option.bind, Option.toList, List.cons_append, List.nil_append, zite0, zite1, zite01, znn, ite_not, true_or, or_true, true_and, and_true, zn10, zn00, zk_135 hL, zr_135_0 hL, z6_0 hL, z6_1 hL, z6_2 hL, z6_3 hL, z6_4 hL, hb, hc, zb_M_should_4, zb_M_should_16, h1, zb_M_should_24]
  · rw [if_neg hp] at hb
    rw [if_neg (fun h => hp h.1)]
    refine ⟨J, ?_, h2, h3⟩
    refine ((zcal_go zp_M_should rfl).trans zb_M_should_0).trans ?_
    simp only [if_true, if_false, Option.bind_some, Option.bind, Option.toList, List.cons_append, List.nil_append, zite0, zite1, zite01, znn, ite_not, true_or, or_true, true_and, and_true, zn10, zn00, zk_135 hL, zr_135_0 hL, z6_0 hL, z6_1 hL, z6_2 hL, z6_3 hL, z6_4 hL, hb, zb_M_should_4, h1, zb_M_should_24]
theorem zm_rich_l (hL : zLay L) (ho : zSOK n S) (hn : n < 100000) {k : Nat} (hk : k + 1 ≤ 10) : ∀ (c i : Nat) (b mo : Int) (o : Option zV) (I : Nat → Nat → Int), i + c = 4 → zRM I S → ∃ I', zgo X (zcal X zP (d + 4)) zc_M_richest 25 [some (.inr (.inr (.inl 135))), some (.inl ((k + 1 : Nat) : Int)), some (.inl b), some (.inl mo), some (.inl (i : Int)), o] [] (I, L) = some (some (.inl (zbl (fun p => zbe S.1 p (k + 1)) c i b mo)), (I', L)) ∧ zRM I' S ∧ ∀ a, a < 135 → I' a = I a := by
  intro c
  induction c with
  | zero =>
    intro i b mo o I hi hr
    refine ⟨I, ?_, hr, fun _ _ => rfl⟩
    rw [zb_M_richest_25, if_neg (by omega)]
    rfl
  | succ c ih =>
    intro i b mo o I hi hr
    have hi4 : i < 4 := by omega
    have hii : (i : Int) < 4 := by omega
    have him : i < 1000000 := by omega
    obtain ⟨I1, a1, a2, a3, a4⟩ := zq_M_bestOf (X := X) (d := d) hL ho hn hr hi4 hk
    rw [zbl_s]
    by_cases e : mo < zbe S.1 i (k + 1)
    · obtain ⟨I', q1, q2, q3⟩ := ih (i + 1) (i : Int) (zbe S.1 i (k + 1)) (some (.inl (zbe S.1 i (k + 1)))) I1 (by omega) a2
      rw [if_pos e]
      refine ⟨I', ?_, q2, fun a ha => (q3 a ha).trans (a4 a ha)⟩
      rw [zb_M_richest_25, if_pos hii]
      simp only [if_true, if_false, Option.bind_some, Option.bind, Option.toList, List.cons_append, List.nil_append, zite0, zite1, zite01, znn, ite_not, true_or, or_true, true_and, and_true, zn10, zn00, zk_135 hL, zr_135_0 hL, z6_0 hL, z6_1 hL, z6_2 hL, z6_3 hL, z6_4 hL, a1, zb_M_richest_38, eq_true e]
      rw [zw32n him]
      exact q1
    · obtain ⟨I', q1, q2, q3⟩ := ih (i + 1) b mo (some (.inl (zbe S.1 i (k + 1)))) I1 (by omega) a2
      rw [if_neg e]
      refine ⟨I', ?_, q2, fun a ha => (q3 a ha).trans (a4 a ha)⟩
      rw [zb_M_richest_25, if_pos hii]
      simp only [if_true, if_false, Option.bind_some, Option.bind, Option.toList, List.cons_append, List.nil_append, zite0, zite1, zite01, znn, ite_not, true_or, or_true, true_and, and_true, zn10, zn00, zk_135 hL, zr_135_0 hL, z6_0 hL, z6_1 hL, z6_2 hL, z6_3 hL, z6_4 hL, a1, zb_M_richest_38, eq_false e]
      rw [zw32n him]
      exact q1
theorem zm_richest (hL : zLay L) (ho : zSOK n S) (hn : n < 100000) {m : Int} : zHM X L (d + 5) 207 [.inl m] S (zr_richest S m) := by
  intro I hr
  have hc := zq_M_in (X := X) (d := d + 3) (σ := (I, L)) (v := m) (a := 1) (b := 10)
  unfold zr_richest
  by_cases hm : 1 ≤ m ∧ m ≤ 10
  · rw [if_pos hm] at hc ⊢
    obtain ⟨m, rfl⟩ := Int.eq_ofNat_of_zero_le (show 0 ≤ m by omega)
    rw [Int.toNat_natCast]
    obtain ⟨k, rfl⟩ : ∃ k, m = k + 1 := ⟨m - 1, by omega⟩
    obtain ⟨I', q1, q2, q3⟩ := zm_rich_l (X := X) (d := d) hL ho hn (show k + 1 ≤ 10 by omega) 4 0 0 (-1) none I (by omega) hr
    refine ⟨I', ?_, q2, q3⟩
    refine ((zcal_go zp_M_richest rfl).trans zb_M_richest_0).trans ?_
    simp only [if_true, if_false, Option.bind_some, Option.bind, Option.toList, List.cons_append, List.nil_append, zite0, zite1, zite01, znn, ite_not, true_or, or_true, true_and, and_true, zn10, zn00, zk_135 hL, zr_135_0 hL, z6_0 hL, z6_1 hL, z6_2 hL, z6_3 hL, z6_4 hL, hc, zb_M_richest_9]
    exact q1
  · rw [if_neg hm] at hc ⊢
    obtain ⟨J, h1, h2, h3⟩ := zM_findsc (X := X) (d := d + 3) (k := 0) (c := -1000001) (k' := 0) hL ho (by omega) (by omega) (by omega) hr
    refine ⟨J, ?_, h2, h3⟩
    refine ((zcal_go zp_M_richest rfl).trans zb_M_richest_0).trans ?_
    simp only [if_true, if_false, Option.bind_some, Option.bind, Option.toList, List.cons_append, List.nil_append, zite0, zite1, zite01, znn, ite_not, true_or, or_true, true_and, and_true, zn10, zn00, zk_135 hL, zr_135_0 hL, z6_0 hL, z6_1 hL, z6_2 hL, z6_3 hL, z6_4 hL, hc, zb_M_richest_9, h1, zb_M_richest_17]
theorem zo_best (ho : zSOK n S) (hn : n < 100000) {p m : Int} : zSOK (n + 1) (zr_best S p m).2 := by
  unfold zr_best
  exact zif2 (fun _ => zSOK_up ho hn) (fun _ => zSOK_f ho (by omega) hn)
theorem zo_should (ho : zSOK n S) (hn : n < 100000) {p m : Int} : zSOK (n + 1) (zr_should S p m).2 := by
  unfold zr_should
  exact zif2 (fun _ => zSOK_up ho hn) (fun _ => zSOK_f ho (by omega) hn)
theorem zo_richest (ho : zSOK n S) (hn : n < 100000) {m : Int} : zSOK (n + 1) (zr_richest S m).2 := by
  unfold zr_richest
  exact zif2 (fun _ => zSOK_up ho hn) (fun _ => zSOK_f ho (by omega) hn)
theorem zA29 (hL : zLay L) : zA_29 X L := fun n a1 a2 _ _ S ho hn => zCI (zr_best S a1 a2) (by unfold zr_best; exact zif1 ⟨_, rfl⟩ ⟨_, rfl⟩) (zx_best (d := 15) hL ho hn) (zm_best (d := 35) hL ho hn) (zo_best ho hn)
theorem zA30 (hL : zLay L) : zA_30 X L := fun n a1 a2 _ _ S ho hn => zCI (zr_should S a1 a2) (by unfold zr_should; exact zif1 ⟨_, rfl⟩ ⟨_, rfl⟩) (zx_should (d := 15) hL ho hn) (zm_should (d := 35) hL ho hn) (zo_should ho hn)
theorem zA31 (hL : zLay L) : zA_31 X L := fun n a1 _ S ho hn => zCI (zr_richest S a1) (by unfold zr_richest; exact zif1 ⟨_, rfl⟩ ⟨_, rfl⟩) (zx_richest (d := 15) hL ho hn) (zm_richest (d := 35) hL ho hn) (zo_richest ho hn)
end
