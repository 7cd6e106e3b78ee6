/-! MISLED: the reference's pairs. -/
section
variable {X : zX} {C : zC} {d n c : Nat} {k s : Int} {L : zLt} {S : zSt} {T : zTb} {I : Nat → Nat → Int}
theorem zg144 (hL : zLay L) {j : Nat} (h : j < 15) : ((L.2.1 144).1 = 2 ∧ 0 ≤ (j : Int) ∧ (j : Int) < ((L.2.1 144).2.1 : Int)) = True := by
  rw [zk_144 hL]
  exact eq_true ⟨rfl, by omega, show (j : Int) < ((15 : Nat) : Int) by omega⟩
theorem zg145 (hL : zLay L) {j : Nat} (h : j < 15) : ((L.2.1 145).1 = 2 ∧ 0 ≤ (j : Int) ∧ (j : Int) < ((L.2.1 145).2.1 : Int)) = True := by
  rw [zk_145 hL]
  exact eq_true ⟨rfl, by omega, show (j : Int) < ((15 : Nat) : Int) by omega⟩
/-- the first pairs are laid -/
def zLP (I : Nat → Nat → Int) (c m : Nat) : Prop := I 135 12 = (m : Int) ∧ ∀ j, j < m → I 144 j = ((zpj c j).1 : Int) ∧ I 145 j = ((zpj c j).2 : Int)
def zLF (I I' : Nat → Nat → Int) : Prop := ∀ a j, a ≠ 144 → a ≠ 145 → (a ≠ 135 ∨ j ≠ 12) → I' a j = I a j
theorem zm_lp_1 (hL : zLay L) (hc : 3 ≤ c ∧ c < 7) {a : Nat} (ha : a < c) : ∀ (mb b : Nat) (I : Nat → Nat → Int), b + mb = c → a < b → I 136 0 = (c : Int) → zLP I c (zjj c a b) → ∃ I' o, zgo X C zc_M_layPairs 21 [some (.inr (.inr (.inl 135))), some (.inl (a : Int)), some (.inl (b : Int))] [] (I, L) = zgo X C zc_M_layPairs 7 [some (.inr (.inr (.inl 135))), some (.inl ((a + 1 : Nat) : Int)), o] [] (I', L) ∧ zLP I' c (zjj c a c) ∧ zLF I I' := by
  have ham : a < 1000000 := by omega
  intro mb
  induction mb with
  | zero =>
    intro b I hb hab h0 hp
    have hbc : b = c := by omega
    subst hbc
    have hnn : ((b : Int) < (b : Int)) = False := eq_false (by omega)
    refine ⟨I, some (.inl (b : Int)), ?_, hp, fun _ _ _ _ _ => rfl⟩
    rw [zb_M_layPairs_21]
    simp only [if_true, if_false, Option.bind_some, Option.bind, Option.toList, List.cons_append, List.nil_append, zite0, zite1, zite01, znn, ite_not, true_or, or_true, true_and, and_true, zn10, zn00, zk_135 hL, zr_135_0 hL, z6_0 hL, z6_1 hL, z6_2 hL, z6_3 hL, z6_4 hL, h0, hnn, zw32n ham]
  | succ mb ih =>
    intro b I hb hab h0 hp
    have hbm : b < 1000000 := by omega
    have hbc : ((b : Int) < (c : Int)) = True := eq_true (by omega)
    obtain ⟨hj1, hj2⟩ := zjj_p (a := a) hc.2 hab (show b < c by omega)
    have h15 := (zPP_in hc.1 hc.2).2
    have hs := zjj_s (c := c) hab
    obtain ⟨p1, p2⟩ := hp
    generalize hj : zjj c a b = j at *
    have hjm : j < 1000000 := by omega
    have hj15 : j < 15 := by omega
    have e1 : zwI I 144 j (a : Int) 135 12 = (j : Int) := (zwI_ne (by omega)).trans p1
    have e2 : zwI (zwI I 144 j (a : Int)) 145 j (b : Int) 135 12 = (j : Int) := (zwI_ne (by omega)).trans e1
    generalize hI1 : zwI (zwI (zwI I 144 j (a : Int)) 145 j (b : Int)) 135 12 ((j + 1 : Nat) : Int) = I1 at *
    have hF : zLF I I1 := by
      intro x y h1 h2 h3
      rw [← hI1, zwI_if, if_neg (by omega), zwI_ne h2, zwI_ne h1]
    have hP : zLP I1 c (zjj c a (b + 1)) := by
      rw [hs]
      refine ⟨by rw [← hI1, zwI_eq], fun i hi => ?_⟩
      by_cases hij : i = j
      · subst hij
        rw [hj1, ← hI1]
        exact ⟨by rw [zwI_ne (by omega), zwI_ne (by omega), zwI_eq], by rw [zwI_ne (by omega), zwI_eq]⟩
      · have := p2 i (by omega)
        rw [← hI1]
        exact ⟨by rw [zwI_ne (by omega), zwI_ne (by omega), zwI_nej hij]; exact this.1, by rw [zwI_ne (by omega), zwI_nej hij, zwI_ne (by omega)]; exact this.2⟩
    obtain ⟨I', o, a1, a2, a3⟩ := ih (b + 1) I1 (by omega) (by omega) (by rw [hF 136 0 (by omega) (by omega) (by omega)]; exact h0) hP
    refine ⟨I', o, ?_, a2, fun x y h1 h2 h3 => (a3 x y h1 h2 h3).trans (hF x y h1 h2 h3)⟩
    rw [zb_M_layPairs_21]
    simp only [if_true, if_false, Option.bind_some, Option.bind, Option.toList, List.cons_append, List.nil_append, zite0, zite1, zite01, znn, ite_not, true_or, or_true, true_and, and_true, zn10, zn00, zk_135 hL, zr_135_0 hL, z6_0 hL, z6_1 hL, z6_2 hL, z6_3 hL, z6_4 hL, h0, hbc, zr_135_10 hL, zr_135_11 hL, p1, zg144 hL hj15, Int.toNat_natCast, zw_I, e1, zg145 hL hj15, e2, zw32n hjm, hI1, zw32n hbm, a1]
theorem zm_lp_2 (hL : zLay L) (hc : 3 ≤ c ∧ c < 7) : ∀ (ma a : Nat) (o : Option zV) (I : Nat → Nat → Int), a + ma = c → I 136 0 = (c : Int) → zLP I c (zjj c a (a + 1)) → ∃ I', zgo X C zc_M_layPairs 7 [some (.inr (.inr (.inl 135))), some (.inl (a : Int)), o] [] (I, L) = some (none, (I', L)) ∧ zLP I' c (zPP c) ∧ zLF I I' := by
  intro ma
  induction ma with
  | zero =>
    intro a o I ha h0 hp
    have hac : a = c := by omega
    subst hac
    have hnn : ((a : Int) < (a : Int)) = False := eq_false (by omega)
    rw [zjj_e hc.2] at hp
    refine ⟨I, ?_, hp, fun _ _ _ _ _ => rfl⟩
    rw [zb_M_layPairs_7]
    simp only [if_true, if_false, Option.bind_some, Option.bind, Option.toList, List.cons_append, List.nil_append, zite0, zite1, zite01, znn, ite_not, true_or, or_true, true_and, and_true, zn10, zn00, zk_135 hL, zr_135_0 hL, z6_0 hL, z6_1 hL, z6_2 hL, z6_3 hL, z6_4 hL, h0, hnn]
    try rfl
  | succ ma ih =>
    intro a o I ha h0 hp
    have ham : a < 1000000 := by omega
    have hac : ((a : Int) < (c : Int)) = True := eq_true (by omega)
    obtain ⟨I1, o1, a1, a2, a3⟩ := zm_lp_1 (X := X) (C := C) hL hc (a := a) (by omega) (c - (a + 1)) (a + 1) I (by omega) (by omega) h0 hp
    rw [zjj_n hc.2 (by omega)] at a2
    obtain ⟨I2, b1, b2, b3⟩ := ih (a + 1) o1 I1 (by omega) (by rw [a3 136 0 (by omega) (by omega) (by omega)]; exact h0) a2
    refine ⟨I2, ?_, b2, fun x y h1 h2 h3 => (b3 x y h1 h2 h3).trans (a3 x y h1 h2 h3)⟩
    rw [zb_M_layPairs_7]
    simp only [if_true, if_false, Option.bind_some, Option.bind, Option.toList, List.cons_append, List.nil_append, zite0, zite1, zite01, znn, ite_not, true_or, or_true, true_and, and_true, zn10, zn00, zk_135 hL, zr_135_0 hL, z6_0 hL, z6_1 hL, z6_2 hL, z6_3 hL, z6_4 hL, h0, hac, zw32n ham, a1, b1]
theorem zq_M_layPairs (hL : zLay L) (hc : 3 ≤ c ∧ c < 7) (h0 : I 136 0 = (c : Int)) : ∃ I', zcal X zP (d + 1) 182 [.inr (.inr (.inl 135))] (I, L) = some (none, (I', L)) ∧ zLP I' c (zPP c) ∧ zLF I I' := by
  have hF : zLF I (zwI I 135 12 0) := fun x y h1 h2 h3 => by rw [zwI_if, if_neg (by omega)]
  obtain ⟨I', a1, a2, a3⟩ := zm_lp_2 (X := X) (C := zcal X zP d) hL hc c 0 none (zwI I 135 12 0) (by omega) (by rw [zwI_ne (by omega)]; exact h0) (by
    show zLP _ c (zjj c 0 1)
    rw [zjj_0]
    exact ⟨zwI_eq, fun j hj => absurd hj (by omega)⟩)
  have a1 : zgo X (zcal X zP d) zc_M_layPairs 7 [some (.inr (.inr (.inl 135))), some (.inl 0), none] [] (zwI I 135 12 0, L) = some (none, (I', L)) := a1
  refine ⟨I', ?_, a2, fun x y h1 h2 h3 => (a3 x y h1 h2 h3).trans (hF x y h1 h2 h3)⟩
  refine ((zcal_go zp_M_layPairs rfl).trans zb_M_layPairs_0).trans ?_
  simp only [if_true, if_false, Option.bind_some, Option.bind, Option.toList, List.cons_append, List.nil_append, zite0, zite1, zite01, znn, ite_not, true_or, or_true, true_and, and_true, zn10, zn00, zk_135 hL, zr_135_0 hL, z6_0 hL, z6_1 hL, z6_2 hL, z6_3 hL, z6_4 hL, zw_I, a1]
theorem zw32x {x : Nat} (h : x ≤ 50625) : w32 (x : Int) = (x : Int) := zw32 (by omega) (by omega)
theorem zm_po {P : Nat} (hL : zLay L) (h12 : I 135 12 = (P : Int)) (hP : 1 ≤ P) {x1 x2 : Int} {i : Nat} : ∀ (t r : Nat), i + t ≤ 4 → r ≤ 50625 → zgo X C zc_M_pairOf 8 [some (.inr (.inr (.inl 135))), some (.inl x1), some (.inl x2), some (.inl (i : Int)), some (.inl (r : Int)), some (.inl ((i + t : Nat) : Int))] [] (I, L) = some (some (.inl ((r / P ^ t % P : Nat) : Int)), (I, L)) := by
  have hP0 : ((P : Int) = 0) = False := eq_false (by omega)
  intro t
  induction t with
  | zero =>
    intro r hi hr
    have hnn : ((i : Int) < ((i + 0 : Nat) : Int)) = False := eq_false (by omega)
    have e : Int.tmod (r : Int) (P : Int) = ((r % P : Nat) : Int) := rfl
    rw [zb_M_pairOf_8]
    simp only [if_true, if_false, Option.bind_some, Option.bind, Option.toList, List.cons_append, List.nil_append, zite0, zite1, zite01, znn, ite_not, true_or, or_true, true_and, and_true, zn10, zn00, zk_135 hL, hnn, h12, hP0, e, Nat.pow_zero, Nat.div_one]
  | succ t ih =>
    intro r hi hr
    have hnn : ((i : Int) < ((i + (t + 1) : Nat) : Int)) = True := eq_true (by omega)
    have hrp : r / P ≤ 50625 := Nat.le_trans (Nat.div_le_self _ _) hr
    have e : Unit → w32 (Int.tdiv (r : Int) (P : Int)) = ((r / P : Nat) : Int) := fun _ => zw32x (x := r / P) hrp
    have e2 : Unit → w32 (((i + (t + 1) : Nat) : Int) + -1) = ((i + t : Nat) : Int) := fun _ => (zw32 (by omega) (by omega)).trans (by omega)
    have hq := ih (r / P) (by omega) hrp
    rw [Nat.div_div_eq_div_mul, Nat.mul_comm P, ← Nat.pow_succ] at hq
    rw [zb_M_pairOf_8]
    simp only [if_true, if_false, Option.bind_some, Option.bind, Option.toList, List.cons_append, List.nil_append, zite0, zite1, zite01, znn, ite_not, true_or, or_true, true_and, and_true, zn10, zn00, zk_135 hL, hnn, h12, hP0, e (), e2 (), hq]
theorem zq_M_pairOf {P : Nat} (hL : zLay L) (h12 : I 135 12 = (P : Int)) (hP : 1 ≤ P) {i r : Nat} (hi : i < n) (hn : n ≤ 4) (hr : r ≤ 50625) : zcal X zP (d + 1) 183 [.inr (.inr (.inl 135)), .inl (r : Int), .inl (n : Int), .inl (i : Int)] (I, L) = some (some (.inl ((r / P ^ (n - 1 - i) % P : Nat) : Int)), (I, L)) := by
  have e : Unit → w32 ((n : Int) - 1) = ((i + (n - 1 - i) : Nat) : Int) := fun _ => (zw32 (by omega) (by omega)).trans (by omega)
  have hq := zm_po (X := X) (C := zcal X zP d) (x1 := (r : Int)) (x2 := (n : Int)) (i := i) hL h12 hP (n - 1 - i) r (by omega) hr
  refine ((zcal_go zp_M_pairOf rfl).trans zb_M_pairOf_0).trans ?_
  simp only [if_true, if_false, Option.bind_some, Option.bind, Option.toList, List.cons_append, List.nil_append, zite0, zite1, zite01, znn, ite_not, true_or, or_true, true_and, and_true, zn10, zn00, e (), hq]
end
