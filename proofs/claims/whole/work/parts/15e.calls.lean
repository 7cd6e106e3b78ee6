/-! CONTRACTS OF CALLS: copy, load, judge. -/
section
variable {X : zX} {C : zC} {d n : Nat} {L : zLt} {S : zSt}
def zcpI (I : Nat → Nat → Int) (src sp dst dp n : Nat) : Nat → Nat → Int := fun a j => if a = dst ∧ dp ≤ j ∧ j < dp + n then I src (sp + (j - dp)) else I a j
theorem zcopy_I {I : Nat → Nat → Int} {src sp dst dp n : Nat} : zcopy (I, L) src sp dst dp n = (zcpI I src sp dst dp n, L) := rfl
theorem zx_has {I : Nat → Nat → Int} (hL : zLay L) {s : Nat} (hs : s < 4) {z : Nat} (hz : I (127 + 2 * s) 1 = (z : Int)) (hz40 : z ≤ 40) {f m : Int} : zcal X zP (d + 1) 33 [.inr (.inr (.inl (127 + 2 * s))), .inl f, .inl m] (I, L) = some (some (.inl (if 0 ≤ f ∧ 0 ≤ m ∧ f + m ≤ (z : Int) then 1 else 0)), (I, L)) := by
  obtain ⟨l1, l2, l3, l4⟩ := zsh hL hs
  have e : zcal X zP (d + 1) 33 [.inr (.inr (.inl (127 + 2 * s))), .inl f, .inl m] (I, L) = (if f < 0 then some (some (.inl 0), (I, L)) else if m < 0 then some (some (.inl 0), (I, L)) else if (z : Int) < m then some (some (.inl 0), (I, L)) else if w32 ((z : Int) - m) < f then some (some (.inl 0), (I, L)) else some (some (.inl 1), (I, L))) := by
    refine ((zcal_go zp_Sheet_has rfl).trans zb_Sheet_has_0).trans ?_
    simp only [if_true, if_false, Option.bind_some, Option.bind, Option.toList, List.cons_append, List.nil_append, zite0, zite1, zite01, znn, ite_not, true_or, or_true, true_and, and_true, zn10, zn00, l2, hz]
  rw [e]
  by_cases h1 : f < 0
  · rw [if_pos h1, if_neg (by omega)]
  · rw [if_neg h1]
    by_cases h2 : m < 0
    · rw [if_pos h2, if_neg (by omega)]
    · rw [if_neg h2]
      by_cases h3 : (z : Int) < m
      · rw [if_pos h3, if_neg (by omega)]
      · rw [if_neg h3, zw32 (by omega) (by omega)]
        by_cases h4 : (z : Int) - m < f
        · rw [if_pos h4, if_neg (by omega)]
        · rw [if_neg h4, if_pos (by omega)]
def zr_copy (S : zSt) (s f t g m : Int) : zV × zSt := if (0 ≤ s ∧ s ≤ 3) ∧ (0 ≤ t ∧ t ≤ 3) then (if (S.2.2.2.2.1 s.toNat).1 = 0 ∨ (S.2.2.2.2.1 t.toNat).1 = 0 then (.inl (-1000006), zSf S 5) else if (S.2.2.2.2.1 s.toNat).1 = (S.2.2.2.2.1 t.toNat).1 then (if 0 ≤ f ∧ 0 ≤ g ∧ 0 ≤ m ∧ f + m ≤ ((S.2.2.2.2.1 s.toNat).2.1 : Int) ∧ g + m ≤ ((S.2.2.2.2.1 t.toNat).2.1 : Int) then (.inl m, zSsh S t.toNat ((S.2.2.2.2.1 t.toNat).1, ((S.2.2.2.2.1 t.toNat).2.1, fun j => if g.toNat ≤ j ∧ j < g.toNat + m.toNat then (S.2.2.2.2.1 s.toNat).2.2 (f.toNat + (j - g.toNat)) else (S.2.2.2.2.1 t.toNat).2.2 j))) else (.inl (-1000001), zSf S 0)) else (.inl (-1000003), zSf S 2)) else (.inl (-1000001), zSf S 0)
theorem zx_copy (hL : zLay L) (ho : zSOK n S) {s f t g m : Int} : zHX X L (d + 3) 112 [.inl s, .inl f, .inl t, .inl g, .inl m] S (zr_copy S s f t g m) := by
  intro I hr
  have hb := zq_X_isSheet (X := X) (d := d) (σ := (I, L)) (v := s)
  have hc := zq_X_isSheet (X := X) (d := d) (σ := (I, L)) (v := t)
  obtain ⟨J0, u1, u2, u3⟩ := zX_tellc (X := X) (d := d + 1) (k := 0) (c := -1000001) hL ho (by omega) (by omega) hr
  unfold zr_copy
  by_cases hs : 0 ≤ s ∧ s ≤ 3
  · rw [if_pos hs] at hb
    by_cases ht : 0 ≤ t ∧ t ≤ 3
    · rw [if_pos ht] at hc
      rw [if_pos ⟨hs, ht⟩]
      obtain ⟨k, rfl⟩ := Int.eq_ofNat_of_zero_le hs.1
      obtain ⟨q, rfl⟩ := Int.eq_ofNat_of_zero_le ht.1
      rw [Int.toNat_natCast, Int.toNat_natCast]
      obtain ⟨l1, l2, l3, l4⟩ := zsh hL (show k < 4 by omega)
      obtain ⟨k1, k2, k3, k4⟩ := zsh hL (show q < 4 by omega)
      obtain ⟨r1, r2, r3⟩ := hr.2.2.2.2.2.1 k (by omega)
      obtain ⟨s1, s2, s3⟩ := hr.2.2.2.2.2.1 q (by omega)
      have h40 := (ho.2.2.2.2.2.1 k (by omega)).2.1
      have g40 := (ho.2.2.2.2.2.1 q (by omega)).2.1
      obtain ⟨J5, v1, v2, v3⟩ := zX_tellc (X := X) (d := d + 1) (k := 5) (c := -1000006) hL ho (by omega) (by omega) hr
      obtain ⟨J2, w1, w2, w3⟩ := zX_tellc (X := X) (d := d + 1) (k := 2) (c := -1000003) hL ho (by omega) (by omega) hr
      have a1 := zx_has (X := X) (d := d + 1) hL (show k < 4 by omega) r2 h40 (f := f) (m := m)
      have b1 := zx_has (X := X) (d := d + 1) hL (show q < 4 by omega) s2 g40 (f := g) (m := m)
      have key := (zcal_go (X := X) (d := d + 2) (as := [.inr (.inr (.inl 1)), .inl (k : Int), .inl f, .inl (q : Int), .inl g, .inl m]) (σ := (I, L)) zp_X_copy rfl).trans zb_X_copy_0
      simp only [if_true, if_false, Option.bind_some, Option.bind, Option.toList, List.cons_append, List.nil_append, zite0, zite1, zite01, znn, ite_not, true_or, or_true, true_and, and_true, zn10, zn00, zk_1 hL, zr_1_0 hL, zk_2 hL, hb, hc, zb_X_copy_4, zb_X_copy_11, zb_X_copy_20, zb_X_copy_60, zb_X_copy_81, zb_X_copy_90, zb_X_copy_102, zb_X_copy_111, zr_1_9 hL, zc125 hL (show k < 4 by omega), zc125 hL (show q < 4 by omega), Int.toNat_natCast, l1, l2, l3, k1, k2, k3, r1, s1, a1, b1, u1, v1, w1, zcopy_I] at key
      by_cases h00 : (S.2.2.2.2.1 k).1 = 0
      · rw [if_pos (Or.inl h00)]
        exact ⟨J5, key.trans (if_pos h00), v2, v3⟩
      · rw [if_neg h00] at key
        by_cases h01 : (S.2.2.2.2.1 q).1 = 0
        · rw [if_pos (Or.inr h01)]
          exact ⟨J5, key.trans (if_pos h01), v2, v3⟩
        · rw [if_neg h01] at key
          rw [if_neg (fun h => h.elim h00 h01)]
          by_cases he : (S.2.2.2.2.1 k).1 = (S.2.2.2.2.1 q).1
          · rw [if_pos he] at key ⊢
            by_cases hh : 0 ≤ f ∧ 0 ≤ g ∧ 0 ≤ m ∧ f + m ≤ ((S.2.2.2.2.1 k).2.1 : Int) ∧ g + m ≤ ((S.2.2.2.2.1 q).2.1 : Int)
            · rw [if_pos hh]
              have hcd : ((L.2.1 (128 + 2 * k)).1 = 2 ∧ (L.2.1 (128 + 2 * q)).1 = 2 ∧ 0 ≤ f ∧ 0 ≤ g ∧ 0 ≤ m ∧ f + m ≤ ((L.2.1 (128 + 2 * k)).2.1 : Int) ∧ g + m ≤ ((L.2.1 (128 + 2 * q)).2.1 : Int)) := by
                rw [l4, k4]
                exact ⟨rfl, rfl, hh.1, hh.2.1, hh.2.2.1, by show f + m ≤ ((40 : Nat) : Int); omega, by show g + m ≤ ((40 : Nat) : Int); omega⟩
              rw [if_pos ⟨hh.1, hh.2.2.1, hh.2.2.2.1⟩, if_pos ⟨hh.2.1, hh.2.2.1, hh.2.2.2.2⟩, if_pos hcd] at key
              refine ⟨zcpI I (128 + 2 * k) f.toNat (128 + 2 * q) g.toNat m.toNat, key, zRX_sh ho (show q < 4 by omega) (fun a j h1 h2 => if_neg (by omega)) ((if_neg (by omega)).trans s1) ((if_neg (by omega)).trans s2) (fun j hj => ?_) hr, fun a ha => funext fun j => if_neg (by omega)⟩
              show (if _ = _ ∧ g.toNat ≤ j ∧ j < g.toNat + m.toNat then _ else _) = if g.toNat ≤ j ∧ j < g.toNat + m.toNat then _ else _
              by_cases c : g.toNat ≤ j ∧ j < g.toNat + m.toNat
              · rw [if_pos ⟨rfl, c⟩, if_pos c]; exact r3 _ (by omega)
              · rw [if_neg (fun h => c h.2), if_neg c]; exact s3 j hj
            · rw [if_neg hh]
              refine ⟨J0, key.trans ?_, u2, u3⟩
              by_cases c : 0 ≤ f ∧ 0 ≤ m ∧ f + m ≤ ((S.2.2.2.2.1 k).2.1 : Int)
              · rw [if_pos c, if_neg (fun e => hh ⟨c.1, e.1, c.2.1, c.2.2, e.2.2⟩)]
              · rw [if_neg c]
          · rw [if_neg he] at key ⊢
            exact ⟨J2, key, w2, w3⟩
    · rw [if_neg ht] at hc
      rw [if_neg (fun h => ht h.2)]
      refine ⟨J0, ?_, u2, u3⟩
      refine ((zcal_go zp_X_copy rfl).trans zb_X_copy_0).trans ?_
      simp only [if_true, if_false, Option.bind_some, Option.bind, Option.toList, List.cons_append, List.nil_append, zite0, zite1, zite01, znn, ite_not, true_or, or_true, true_and, and_true, zn10, zn00, zk_1 hL, zr_1_0 hL, zk_2 hL, hb, hc, zb_X_copy_4, zb_X_copy_11, zb_X_copy_20, u1]
  · rw [if_neg hs] at hb
    rw [if_neg (fun h => hs h.1)]
    refine ⟨J0, ?_, u2, u3⟩
    refine ((zcal_go zp_X_copy rfl).trans zb_X_copy_0).trans ?_
    simp only [if_true, if_false, Option.bind_some, Option.bind, Option.toList, List.cons_append, List.nil_append, zite0, zite1, zite01, znn, ite_not, true_or, or_true, true_and, and_true, zn10, zn00, zk_1 hL, zr_1_0 hL, zk_2 hL, hb, zb_X_copy_4, zb_X_copy_20, u1]
theorem zc150 (hL : zLay L) {i : Nat} (h : i < 40) : ((L.2.1 150).1 = 2 ∧ 0 ≤ (i : Int) ∧ (i : Int) < ((L.2.1 150).2.1 : Int)) = True := by
  rw [zk_150 hL]
  exact eq_true ⟨rfl, by omega, by show (i : Int) < ((40 : Nat) : Int); omega⟩
theorem zm_copy_2 (hL : zLay L) {s t f g k : Nat} (ht : t < 4) (hg : g + k ≤ 40) : ∀ (m i : Nat) (I : Nat → Nat → Int), i + m = k → ∃ I', zgo X C zc_M_copy 160 [some (.inr (.inr (.inl 135))), some (.inl (s : Int)), some (.inl (f : Int)), some (.inl (t : Int)), some (.inl (g : Int)), some (.inl (k : Int)), some (.inl (i : Int))] [] (I, L) = some (some (.inl (k : Int)), (I', L)) ∧ (∀ a j, (a ≠ 149 ∨ j < 40 * t + g + i ∨ 40 * t + g + k ≤ j) → I' a j = I a j) ∧ ∀ j, i ≤ j → j < k → I' 149 (40 * t + g + j) = I 150 j := by
  intro m
  induction m with
  | zero =>
    intro i I hi
    refine ⟨I, ?_, fun a j _ => rfl, fun e h1 h2 => absurd h1 (by omega)⟩
    rw [zb_M_copy_160, if_neg (by omega)]
  | succ m ih =>
    intro i I hi
    obtain ⟨I', q1, q2, q3⟩ := ih (i + 1) (zwI I 149 (40 * t + g + i) (I 150 i)) (by omega)
    have e : w32 ((w32 ((w32 (40 * (t : Int))) + (g : Int))) + (i : Int)) = ((40 * t + g + i : Nat) : Int) := by unfold w32; omega
    rw [zb_M_copy_160, if_pos (by omega)]
    simp only [if_true, if_false, Option.bind_some, Option.bind, Option.toList, List.cons_append, List.nil_append, zite0, zite1, zite01, znn, ite_not, true_or, or_true, true_and, and_true, zn10, zn00, zk_135 hL, zr_135_0 hL, z6_0 hL, z6_1 hL, z6_2 hL, z6_3 hL, z6_4 hL, zr_135_30 hL, zr_135_29 hL, e, zc149 hL (show 40 * t + g + i < 160 by omega), zc150 hL (show i < 40 by omega), Int.toNat_natCast, zw_I]
    rw [zw32n (by omega)]
    refine ⟨I', q1, fun a j h => (q2 a j (by omega)).trans ?_, fun j h1 h2 => ?_⟩
    · rw [zwI_if, if_neg (by omega)]
    · by_cases he : j = i
      · rw [he, q2 _ _ (by omega), zwI_eq]
      · rw [q3 j (by omega) h2, zwI_ne (by omega)]
theorem zm_copy_1 (hL : zLay L) {s t f g k : Nat} (hs : s < 4) (hf : f + k ≤ 40) : ∀ (m i : Nat) (I : Nat → Nat → Int), i + m = k → ∃ I', zgo X C zc_M_copy 123 [some (.inr (.inr (.inl 135))), some (.inl (s : Int)), some (.inl (f : Int)), some (.inl (t : Int)), some (.inl (g : Int)), some (.inl (k : Int)), some (.inl (i : Int))] [] (I, L) = zgo X C zc_M_copy 160 [some (.inr (.inr (.inl 135))), some (.inl (s : Int)), some (.inl (f : Int)), some (.inl (t : Int)), some (.inl (g : Int)), some (.inl (k : Int)), some (.inl 0)] [] (I', L) ∧ (∀ a j, (a ≠ 150 ∨ j < i) → I' a j = I a j) ∧ ∀ j, i ≤ j → j < k → I' 150 j = I 149 (40 * s + f + j) := by
  intro m
  induction m with
  | zero =>
    intro i I hi
    refine ⟨I, ?_, fun a j _ => rfl, fun e h1 h2 => absurd h1 (by omega)⟩
    rw [zb_M_copy_123, if_neg (by omega)]
  | succ m ih =>
    intro i I hi
    obtain ⟨I', q1, q2, q3⟩ := ih (i + 1) (zwI I 150 i (I 149 (40 * s + f + i))) (by omega)
    have e : w32 ((w32 ((w32 (40 * (s : Int))) + (f : Int))) + (i : Int)) = ((40 * s + f + i : Nat) : Int) := by unfold w32; omega
    rw [zb_M_copy_123, if_pos (by omega)]
    simp only [if_true, if_false, Option.bind_some, Option.bind, Option.toList, List.cons_append, List.nil_append, zite0, zite1, zite01, znn, ite_not, true_or, or_true, true_and, and_true, zn10, zn00, zk_135 hL, zr_135_0 hL, z6_0 hL, z6_1 hL, z6_2 hL, z6_3 hL, z6_4 hL, zr_135_30 hL, zr_135_29 hL, e, zc149 hL (show 40 * s + f + i < 160 by omega), zc150 hL (show i < 40 by omega), Int.toNat_natCast, zw_I]
    rw [zw32n (by omega)]
    refine ⟨I', q1, fun a j h => (q2 a j (by omega)).trans ?_, fun j h1 h2 => ?_⟩
    · rw [zwI_if, if_neg (by omega)]
    · by_cases he : j = i
      · rw [he, q2 _ _ (by omega), zwI_eq]
      · rw [q3 j (by omega) h2, zwI_ne (by omega)]
theorem zm_copy (hL : zLay L) (ho : zSOK n S) {s f t g m : Int} (hf : zint f) (hg : zint g) (hm : zint m) : zHM X L (d + 3) 236 [.inl s, .inl f, .inl t, .inl g, .inl m] S (zr_copy S s f t g m) := by
  intro I hr
  have hb := zq_M_isSheet (X := X) (d := d) (σ := (I, L)) (v := s)
  have hc := zq_M_isSheet (X := X) (d := d) (σ := (I, L)) (v := t)
  obtain ⟨J0, u1, u2, u3⟩ := zM_findsc (X := X) (d := d + 1) (k := 0) (c := -1000001) (k' := 0) hL ho (by omega) (by omega) (by omega) hr
  unfold zr_copy
  by_cases hs : 0 ≤ s ∧ s ≤ 3
  · rw [if_pos hs] at hb
    by_cases ht : 0 ≤ t ∧ t ≤ 3
    · rw [if_pos ht] at hc
      rw [if_pos ⟨hs, ht⟩]
      obtain ⟨k, rfl⟩ := Int.eq_ofNat_of_zero_le hs.1
      obtain ⟨q, rfl⟩ := Int.eq_ofNat_of_zero_le ht.1
      rw [Int.toNat_natCast, Int.toNat_natCast]
      obtain ⟨r1, r2, r3⟩ := hr.2.2.2.2.2.1 k (by omega)
      obtain ⟨s1, s2, s3⟩ := hr.2.2.2.2.2.1 q (by omega)
      have h40 := (ho.2.2.2.2.2.1 k (by omega)).2.1
      have g40 := (ho.2.2.2.2.2.1 q (by omega)).2.1
      have w1 : w64 (f + m) = f + m := by have := hf.1; have := hf.2; have := hm.1; have := hm.2; unfold w64; omega
      have w2 : w64 (g + m) = g + m := by have := hg.1; have := hg.2; have := hm.1; have := hm.2; unfold w64; omega
      obtain ⟨J5, v1, v2, v3⟩ := zM_findsc (X := X) (d := d + 1) (k := 5) (c := -1000006) (k' := 5) hL ho (by omega) (by omega) (by omega) hr
      obtain ⟨J2, y1, y2, y3⟩ := zM_findsc (X := X) (d := d + 1) (k := 2) (c := -1000003) (k' := 2) hL ho (by omega) (by omega) (by omega) hr
      have key := (zcal_go (X := X) (d := d + 2) (as := [.inr (.inr (.inl 135)), .inl (k : Int), .inl f, .inl (q : Int), .inl g, .inl m]) (σ := (I, L)) zp_M_copy rfl).trans zb_M_copy_0
      simp only [if_true, if_false, Option.bind_some, Option.bind, Option.toList, List.cons_append, List.nil_append, zite0, zite1, zite01, znn, ite_not, true_or, or_true, true_and, and_true, zn10, zn00, zk_135 hL, zr_135_0 hL, z6_0 hL, z6_1 hL, z6_2 hL, z6_3 hL, z6_4 hL, hb, hc, zb_M_copy_4, zb_M_copy_11, zb_M_copy_19, zb_M_copy_43, zb_M_copy_64, zb_M_copy_119, zr_135_27 hL, zc147 hL (show k < 4 by omega), zc147 hL (show q < 4 by omega), zr_135_28 hL, zc148 hL (show k < 4 by omega), zc148 hL (show q < 4 by omega), Int.toNat_natCast, r1, s1, r2, s2, w1, w2, zcmp_gt, u1, v1, y1] at key
      by_cases h00 : (S.2.2.2.2.1 k).1 = 0
      · rw [if_pos (Or.inl h00)]
        exact ⟨J5, key.trans (if_pos h00), v2, v3⟩
      · rw [if_neg h00] at key
        by_cases h01 : (S.2.2.2.2.1 q).1 = 0
        · rw [if_pos (Or.inr h01)]
          exact ⟨J5, key.trans (if_pos h01), v2, v3⟩
        · rw [if_neg h01] at key
          rw [if_neg (fun h => h.elim h00 h01)]
          by_cases he : (S.2.2.2.2.1 k).1 = (S.2.2.2.2.1 q).1
          · rw [if_pos he] at key ⊢
            by_cases hh : 0 ≤ f ∧ 0 ≤ g ∧ 0 ≤ m ∧ f + m ≤ ((S.2.2.2.2.1 k).2.1 : Int) ∧ g + m ≤ ((S.2.2.2.2.1 q).2.1 : Int)
            · rw [if_pos hh]
              obtain ⟨hh1, hh2, hh3, hh4, hh5⟩ := hh
              clear w1 w2 hf hg hm
              rw [if_neg (by omega), if_neg (by omega), if_neg (by omega), if_neg (by omega), if_neg (by omega)] at key
              obtain ⟨f', rfl⟩ := Int.eq_ofNat_of_zero_le hh1
              obtain ⟨g', rfl⟩ := Int.eq_ofNat_of_zero_le hh2
              obtain ⟨m', rfl⟩ := Int.eq_ofNat_of_zero_le hh3
              rw [Int.toNat_natCast, Int.toNat_natCast, Int.toNat_natCast]
              obtain ⟨I1, p1, p2, p3⟩ := zm_copy_1 (X := X) (C := zcal X zP (d + 2)) hL (t := q) (g := g') (show k < 4 by omega) (show f' + m' ≤ 40 by omega) m' 0 I (by omega)
              obtain ⟨I', q1, q2, q3⟩ := zm_copy_2 (X := X) (C := zcal X zP (d + 2)) hL (s := k) (f := f') (show q < 4 by omega) (show g' + m' ≤ 40 by omega) m' 0 I1 (by omega)
              refine ⟨I', key.trans (p1.trans q1), zRM_sh ho (show q < 4 by omega) g40 (fun a j h1 h2 h3 h4 => (q2 a j (by omega)).trans (p2 a j (by omega))) ((q2 _ _ (by omega)).trans ((p2 _ _ (by omega)).trans s1)) ((q2 _ _ (by omega)).trans ((p2 _ _ (by omega)).trans s2)) (fun j hj => ?_) hr, fun a ha => funext fun j => (q2 a j (by omega)).trans (p2 a j (by omega))⟩
              have hj : j < (S.2.2.2.2.1 q).2.1 := hj
              show _ = if g' ≤ j ∧ j < g' + m' then _ else _
              by_cases c : g' ≤ j ∧ j < g' + m'
              · rw [if_pos c]
                obtain ⟨i, rfl⟩ := Nat.exists_eq_add_of_le c.1
                have := q3 i (by omega) (by omega)
                rw [show 40 * q + g' + i = 40 * q + (g' + i) by omega] at this
                rw [this, p3 i (by omega) (by omega), show 40 * k + f' + i = 40 * k + (f' + (g' + i - g')) by omega]
                exact r3 _ (by omega)
              · rw [if_neg c, q2 _ _ (by omega), p2 _ _ (by omega)]; exact s3 j hj
            · rw [if_neg hh]
              refine ⟨J0, key.trans ?_, u2, u3⟩
              by_cases c1 : f < 0
              · rw [if_pos c1]
              · by_cases c2 : g < 0
                · rw [if_neg c1, if_pos c2]
                · by_cases c3 : m < 0
                  · rw [if_neg c1, if_neg c2, if_pos c3]
                  · by_cases c4 : ((S.2.2.2.2.1 k).2.1 : Int) < f + m
                    · rw [if_neg c1, if_neg c2, if_neg c3, if_pos c4]
                    · rw [if_neg c1, if_neg c2, if_neg c3, if_neg c4, if_pos (by omega)]
          · rw [if_neg he] at key ⊢
            exact ⟨J2, key, y2, y3⟩
    · rw [if_neg ht] at hc
      rw [if_neg (fun h => ht h.2)]
      refine ⟨J0, ?_, u2, u3⟩
      refine ((zcal_go zp_M_copy rfl).trans zb_M_copy_0).trans ?_
      simp only [if_true, if_false, Option.bind_some, Option.bind, Option.toList, List.cons_append, List.nil_append, zite0, zite1, zite01, znn, ite_not, true_or, or_true, true_and, and_true, zn10, zn00, zk_135 hL, zr_135_0 hL, z6_0 hL, z6_1 hL, z6_2 hL, z6_3 hL, z6_4 hL, hb, hc, zb_M_copy_4, zb_M_copy_11, zb_M_copy_19, u1]
  · rw [if_neg hs] at hb
    rw [if_neg (fun h => hs h.1)]
    refine ⟨J0, ?_, u2, u3⟩
    refine ((zcal_go zp_M_copy rfl).trans zb_M_copy_0).trans ?_
    simp only [if_true, if_false, Option.bind_some, Option.bind, Option.toList, List.cons_append, List.nil_append, zite0, zite1, zite01, znn, ite_not, true_or, or_true, true_and, and_true, zn10, zn00, zk_135 hL, zr_135_0 hL, z6_0 hL, z6_1 hL, z6_2 hL, z6_3 hL, z6_4 hL, hb, zb_M_copy_4, zb_M_copy_19, u1]
theorem zo_copy (ho : zSOK n S) (hn : n < 100000) {s f t g m : Int} : zSOK (n + 1) (zr_copy S s f t g m).2 := by
  unfold zr_copy
  split
  · next h =>
    split
    · exact zSOK_f ho (by omega) hn
    · split
      · split
        · obtain ⟨k, rfl⟩ := Int.eq_ofNat_of_zero_le h.1.1
          obtain ⟨q, rfl⟩ := Int.eq_ofNat_of_zero_le h.2.1
          rw [Int.toNat_natCast, Int.toNat_natCast]
          obtain ⟨b1, b2, b3, b4⟩ := ho.2.2.2.2.2.1 q (by omega)
          obtain ⟨c1, c2, c3, c4⟩ := ho.2.2.2.2.2.1 k (by omega)
          refine zSOK_sh b1 b2 b3 (fun j => ?_) (zSOK_up ho hn)
          show zint (if g.toNat ≤ j ∧ j < g.toNat + m.toNat then _ else _)
          split
          · exact c4 _
          · exact b4 j
        · exact zSOK_f ho (by omega) hn
      · exact zSOK_f ho (by omega) hn
  · exact zSOK_f ho (by omega) hn
theorem zA42 (hL : zLay L) : zA_42 X L := fun n a1 a2 a3 a4 a5 _ h2 _ h4 h5 S ho hn => zCI (zr_copy S a1 a2 a3 a4 a5) (by unfold zr_copy; repeat' (first | exact ⟨_, rfl⟩ | refine zif1 ?_ ?_)) (zx_copy (d := 37) hL ho) (zm_copy (d := 37) hL ho h2 h4 h5) (zo_copy ho hn)
end
