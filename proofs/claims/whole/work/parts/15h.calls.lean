/-! CONTRACTS OF CALLS: image, undo; a table becomes another one. -/
section
variable {X : zX} {C : zC} {d n : Nat} {L : zLt} {S : zSt}
theorem zq_become_A {t u N : Nat} (hl : zTabL L t) (hu : zTabL L u) (htu : t + 27 ≤ u ∨ u + 27 ≤ t) (hN : N ≤ 14) : ∀ (m i : Nat) (I : Nat → Nat → Int) (o : Option zV), i + m = N → I u 2 = (N : Int) → ∃ I' o', zgo X (zcal X zP (d + 1)) zc_Table_become 42 [some (.inr (.inr (.inl t))), some (.inr (.inr (.inl u))), some (.inl (i : Int)), o] [] (I, L) = zgo X (zcal X zP (d + 1)) zc_Table_become 86 [some (.inr (.inr (.inl t))), some (.inr (.inr (.inl u))), some (.inl 0), o'] [] (I', L) ∧ (∀ a j, (a < t + 5 + i ∨ t + 5 + N ≤ a) → I' a j = I a j) ∧ ∀ k, i ≤ k → k < N → ∀ j, j < 3 → I' (t + 5 + k) j = I (u + 5 + k) j := by
  obtain ⟨l1, l2, -, -, -, l6, -, -, -, l10, -⟩ := hl
  obtain ⟨k1, k2, -, -, -, k6, -, -, -, k10, -⟩ := hu
  intro m
  induction m with
  | zero =>
    intro i I o hi h2
    refine ⟨I, o, ?_, fun a j _ => rfl, fun k e1 e2 => absurd e1 (by omega)⟩
    rw [zb_Table_become_42]
    simp only [if_true, if_false, Option.bind_some, Option.bind, Option.toList, List.cons_append, List.nil_append, zite0, zite1, zite01, znn, ite_not, true_or, or_true, true_and, and_true, zn10, zn00, k1, h2]
    rw [if_neg (by omega)]
  | succ m ih =>
    intro i I o hi h2
    obtain ⟨p3, p4⟩ := l10 i (by omega)
    obtain ⟨q3, q4⟩ := k10 i (by omega)
    have g1 : (((L.2.1 (t + 1)).1 = 5 ∨ (L.2.1 (t + 1)).1 = 6) ∧ 0 ≤ (i : Int) ∧ (i : Int) < ((L.2.1 (t + 1)).2.1 : Int)) = True := by
      rw [l6]
      exact eq_true ⟨Or.inl rfl, by omega, by show (i : Int) < ((14 : Nat) : Int); omega⟩
    have g2 : (((L.2.1 (u + 1)).1 = 5 ∨ (L.2.1 (u + 1)).1 = 6) ∧ 0 ≤ (i : Int) ∧ (i : Int) < ((L.2.1 (u + 1)).2.1 : Int)) = True := by
      rw [k6]
      exact eq_true ⟨Or.inl rfl, by omega, by show (i : Int) < ((14 : Nat) : Int); omega⟩
    have hq := zq_Pass_set (X := X) (d := d) (σ := (I, L)) (p := t + 5 + i) (k := I (u + 5 + i) 0) (a := I (u + 5 + i) 1) (b := I (u + 5 + i) 2) p4
    obtain ⟨I', o', r1, r2, r3⟩ := ih (i + 1) (zwI (zwI (zwI I (t + 5 + i) 0 (I (u + 5 + i) 0)) (t + 5 + i) 1 (I (u + 5 + i) 1)) (t + 5 + i) 2 (I (u + 5 + i) 2)) (some (.inr (.inr (.inl (u + 5 + i))))) (by omega) (by rw [zwI_ne (by omega), zwI_ne (by omega), zwI_ne (by omega)]; exact h2)
    refine ⟨I', o', ?_, fun a j h => (r2 a j (by omega)).trans ?_, fun k e1 e2 j hj => ?_⟩
    · rw [zb_Table_become_42]
      simp only [if_true, if_false, Option.bind_some, Option.bind, Option.toList, List.cons_append, List.nil_append, zite0, zite1, zite01, znn, ite_not, true_or, or_true, true_and, and_true, zn10, zn00, k1, l1, h2, eq_true (show (i : Int) < (N : Int) by omega), l2, k2, g1, g2, Int.toNat_natCast, p3, p4, q3, q4, hq, zw_I, zb_Table_become_78]
      rw [zw32n (by omega)]
      exact r1
    · rw [zwI_ne (by omega), zwI_ne (by omega), zwI_ne (by omega)]
    · by_cases he : k = i
      · rw [he, r2 _ _ (by omega)]
        rcases (show j = 0 ∨ j = 1 ∨ j = 2 by omega) with rfl | rfl | rfl
        · rw [zwI_nej (by omega), zwI_nej (by omega), zwI_eq]
        · rw [zwI_nej (by omega), zwI_eq]
        · rw [zwI_eq]
      · rw [r3 k (by omega) e2 j hj, zwI_ne (by omega), zwI_ne (by omega), zwI_ne (by omega)]
theorem zq_become_B {t u : Nat} {o : Option zV} (hl : zTabL L t) (hu : zTabL L u) (htu : t + 27 ≤ u ∨ u + 27 ≤ t) : ∀ (m i : Nat) (I : Nat → Nat → Int), i + m = 4 → ∃ I', zgo X C zc_Table_become 86 [some (.inr (.inr (.inl t))), some (.inr (.inr (.inl u))), some (.inl (i : Int)), o] [] (I, L) = zgo X C zc_Table_become 135 [some (.inr (.inr (.inl t))), some (.inr (.inr (.inl u))), some (.inl 0), o] [] (I', L) ∧ (∀ a j, (a < t + 19 + i ∨ t + 23 ≤ a) → I' a j = I a j) ∧ ∀ k, i ≤ k → k < 4 → ∀ j, j < 2 → I' (t + 19 + k) j = I (u + 19 + k) j := by
  obtain ⟨l1, -, l2, -, -, -, l6, -, -, -, l10, -⟩ := hl
  obtain ⟨k1, -, k2, -, -, -, k6, -, -, -, k10, -⟩ := hu
  intro m
  induction m with
  | zero =>
    intro i I hi
    refine ⟨I, ?_, fun a j _ => rfl, fun k e1 e2 => absurd e1 (by omega)⟩
    rw [zb_Table_become_86, if_neg (by omega)]
  | succ m ih =>
    intro i I hi
    obtain ⟨p3, p4⟩ := l10 i (by omega)
    obtain ⟨q3, q4⟩ := k10 i (by omega)
    have g1 : (((L.2.1 (t + 2)).1 = 5 ∨ (L.2.1 (t + 2)).1 = 6) ∧ 0 ≤ (i : Int) ∧ (i : Int) < ((L.2.1 (t + 2)).2.1 : Int)) = True := by
      rw [l6]
      exact eq_true ⟨Or.inl rfl, by omega, by show (i : Int) < ((4 : Nat) : Int); omega⟩
    have g2 : (((L.2.1 (u + 2)).1 = 5 ∨ (L.2.1 (u + 2)).1 = 6) ∧ 0 ≤ (i : Int) ∧ (i : Int) < ((L.2.1 (u + 2)).2.1 : Int)) = True := by
      rw [k6]
      exact eq_true ⟨Or.inl rfl, by omega, by show (i : Int) < ((4 : Nat) : Int); omega⟩
    have eu : ∀ v, zwI I (t + 19 + i) 0 v (u + 19 + i) 1 = I (u + 19 + i) 1 := fun v => zwI_ne (by omega)
    obtain ⟨I', r1, r2, r3⟩ := ih (i + 1) (zwI (zwI I (t + 19 + i) 0 (I (u + 19 + i) 0)) (t + 19 + i) 1 (I (u + 19 + i) 1)) (by omega)
    refine ⟨I', ?_, fun a j h => (r2 a j (by omega)).trans ?_, fun k e1 e2 j hj => ?_⟩
    · rw [zb_Table_become_86, if_pos (by omega)]
      simp only [if_true, if_false, Option.bind_some, Option.bind, Option.toList, List.cons_append, List.nil_append, zite0, zite1, zite01, znn, ite_not, true_or, or_true, true_and, and_true, zn10, zn00, k1, l1, l2, k2, g1, g2, Int.toNat_natCast, p3, p4, q3, q4, zw_I, eu]
      rw [zw32n (by omega)]
      exact r1
    · rw [zwI_ne (by omega), zwI_ne (by omega)]
    · by_cases he : k = i
      · rw [he, r2 _ _ (by omega)]
        rcases (show j = 0 ∨ j = 1 by omega) with rfl | rfl
        · rw [zwI_nej (by omega), zwI_eq]
        · rw [zwI_eq]
      · rw [r3 k (by omega) e2 j hj, zwI_ne (by omega), zwI_ne (by omega)]
theorem zq_become_p {I : Nat → Nat → Int} {a b : Nat} (hab : a ≠ b) (ha : L.2.1 a = (1, (3, 0))) (hb : L.2.1 b = (1, (3, 0))) : zcal X zP (d + 1) 16 [.inr (.inr (.inl a)), .inr (.inr (.inl b))] (I, L) = some (none, (zwI (zwI (zwI (zwI I a 0 (I b 0)) a 1 (I b 1)) a 2 (I b 2)) a 3 (I b 3), L)) := by
  have eu : ∀ (J : Nat → Nat → Int) j v k, zwI J a j v b k = J b k := fun J j v k => zwI_ne (fun e => hab e.symm)
  refine ((zcal_go zp_Player_become_ rfl).trans zb_Player_become__0).trans ?_
  simp only [if_true, if_false, Option.bind_some, Option.bind, Option.toList, List.cons_append, List.nil_append, zite0, zite1, zite01, znn, ite_not, true_or, or_true, true_and, and_true, zn10, zn00, ha, hb, zw_I, eu]
theorem zq_become_C {t u : Nat} {o : Option zV} (hl : zTabL L t) (hu : zTabL L u) (htu : t + 27 ≤ u ∨ u + 27 ≤ t) : ∀ (m i : Nat) (I : Nat → Nat → Int), i + m = 4 → ∃ I', zgo X (zcal X zP (d + 1)) zc_Table_become 135 [some (.inr (.inr (.inl t))), some (.inr (.inr (.inl u))), some (.inl (i : Int)), o] [] (I, L) = some (none, (I', L)) ∧ (∀ a j, a ≠ t + 4 → (a < t + 23 + i ∨ t + 27 ≤ a) → I' a j = I a j) ∧ (∀ j, j < 10 → I' (t + 4) j = I (u + 4) j) ∧ ∀ k, i ≤ k → k < 4 → ∀ j, j < 4 → I' (t + 23 + k) j = I (u + 23 + k) j := by
  obtain ⟨l1, -, -, l2, l5, -, -, l6, l9, -, -, l10⟩ := hl
  obtain ⟨k1, -, -, k2, k5, -, -, k6, k9, -, -, k10⟩ := hu
  intro m
  induction m with
  | zero =>
    intro i I hi
    have g : ((L.2.1 (u + 4)).1 = 2 ∧ (L.2.1 (t + 4)).1 = 2 ∧ 0 ≤ (0 : Int) ∧ 0 ≤ (0 : Int) ∧ 0 ≤ (10 : Int) ∧ (0 : Int) + (10 : Int) ≤ ((L.2.1 (u + 4)).2.1 : Int) ∧ (0 : Int) + (10 : Int) ≤ ((L.2.1 (t + 4)).2.1 : Int)) := by
      rw [l9, k9]
      exact ⟨rfl, rfl, by decide, by decide, by decide, by decide, by decide⟩
    refine ⟨zcpI I (u + 4) 0 (t + 4) 0 10, ?_, fun a j h1 h2 => if_neg (by omega), fun j hj => ?_, fun k e1 e2 => absurd e1 (by omega)⟩
    · rw [zb_Table_become_135, if_neg (by omega)]
      simp only [if_true, if_false, Option.bind_some, Option.bind, Option.toList, List.cons_append, List.nil_append, zite0, zite1, zite01, znn, ite_not, true_or, or_true, true_and, and_true, zn10, zn00, k1, l1, l5, k5]
      exact (if_pos g).trans rfl
    · refine (if_pos ⟨rfl, by omega, by omega⟩).trans ?_
      rw [show 0 + (j - 0) = j by omega]
  | succ m ih =>
    intro i I hi
    obtain ⟨p3, p4⟩ := l10 i (by omega)
    obtain ⟨q3, q4⟩ := k10 i (by omega)
    have g1 : (((L.2.1 (t + 3)).1 = 5 ∨ (L.2.1 (t + 3)).1 = 6) ∧ 0 ≤ (i : Int) ∧ (i : Int) < ((L.2.1 (t + 3)).2.1 : Int)) = True := by
      rw [l6]
      exact eq_true ⟨Or.inl rfl, by omega, by show (i : Int) < ((4 : Nat) : Int); omega⟩
    have g2 : (((L.2.1 (u + 3)).1 = 5 ∨ (L.2.1 (u + 3)).1 = 6) ∧ 0 ≤ (i : Int) ∧ (i : Int) < ((L.2.1 (u + 3)).2.1 : Int)) = True := by
      rw [k6]
      exact eq_true ⟨Or.inl rfl, by omega, by show (i : Int) < ((4 : Nat) : Int); omega⟩
    have hq := zq_become_p (X := X) (d := d) (I := I) (a := t + 23 + i) (b := u + 23 + i) (by omega) p4 q4
    obtain ⟨I', r1, r2, r3, r4⟩ := ih (i + 1) (zwI (zwI (zwI (zwI I (t + 23 + i) 0 (I (u + 23 + i) 0)) (t + 23 + i) 1 (I (u + 23 + i) 1)) (t + 23 + i) 2 (I (u + 23 + i) 2)) (t + 23 + i) 3 (I (u + 23 + i) 3)) (by omega)
    refine ⟨I', ?_, fun a j h h2 => (r2 a j h (by omega)).trans ?_, fun j hj => (r3 j hj).trans ?_, fun k e1 e2 j hj => ?_⟩
    · rw [zb_Table_become_135, if_pos (by omega)]
      simp only [if_true, if_false, Option.bind_some, Option.bind, Option.toList, List.cons_append, List.nil_append, zite0, zite1, zite01, znn, ite_not, true_or, or_true, true_and, and_true, zn10, zn00, k1, l1, l2, k2, g1, g2, Int.toNat_natCast, p3, p4, q3, q4, hq, zb_Table_become_155]
      rw [zw32n (by omega)]
      exact r1
    · rw [zwI_ne (by omega), zwI_ne (by omega), zwI_ne (by omega), zwI_ne (by omega)]
    · rw [zwI_ne (by omega), zwI_ne (by omega), zwI_ne (by omega), zwI_ne (by omega)]
    · by_cases he : k = i
      · rw [he, r2 _ _ (by omega) (by omega)]
        rcases (show j = 0 ∨ j = 1 ∨ j = 2 ∨ j = 3 by omega) with rfl | rfl | rfl | rfl
        · rw [zwI_nej (by omega), zwI_nej (by omega), zwI_nej (by omega), zwI_eq]
        · rw [zwI_nej (by omega), zwI_nej (by omega), zwI_eq]
        · rw [zwI_nej (by omega), zwI_eq]
        · rw [zwI_eq]
      · rw [r4 k (by omega) e2 j hj, zwI_ne (by omega), zwI_ne (by omega), zwI_ne (by omega), zwI_ne (by omega)]
theorem zq_become_t {t u : Nat} {I : Nat → Nat → Int} {T : zTb} (hl : zTabL L t) (hu : zTabL L u) (htu : t + 27 ≤ u ∨ u + 27 ≤ t) (hT : zTC I u T) (h14 : T.2.1 ≤ 14) : ∃ I', zcal X zP (d + 2) 42 [.inr (.inr (.inl t)), .inr (.inr (.inl u))] (I, L) = some (none, (I', L)) ∧ zTC I' t T ∧ ∀ a, (a < t ∨ t + 27 ≤ a) → I' a = I a := by
  obtain ⟨h1, h2, h3, h4, h5, h6, h7, h8, h9⟩ := hT
  have eu : ∀ (J : Nat → Nat → Int) j v k, zwI J t j v u k = J u k := fun J j v k => zwI_ne (by omega)
  obtain ⟨I1, o1, a1, a2, a3⟩ := zq_become_A (X := X) (d := d) hl hu htu h14 T.2.1 0 (zwI (zwI (zwI (zwI (zwI I t 0 (I u 0)) t 1 (I u 1)) t 2 (I u 2)) t 3 (I u 3)) t 4 (I u 4)) none (by omega) (by rw [eu, eu, eu, eu, eu]; exact h3)
  obtain ⟨I2, b1, b2, b3⟩ := zq_become_B (X := X) (C := zcal X zP (d + 1)) (o := o1) hl hu htu 4 0 I1 (by omega)
  obtain ⟨I3, c1, c2, c3, c4⟩ := zq_become_C (X := X) (d := d) (o := o1) hl hu htu 4 0 I2 (by omega)
  have f0 : ∀ a j, a ≠ t → zwI (zwI (zwI (zwI (zwI I t 0 (I u 0)) t 1 (I u 1)) t 2 (I u 2)) t 3 (I u 3)) t 4 (I u 4) a j = I a j := fun a j h => by
    rw [zwI_ne h, zwI_ne h, zwI_ne h, zwI_ne h, zwI_ne h]
  have f1 : ∀ a j, a ≠ t → (a < t + 5 ∨ t + 5 + T.2.1 ≤ a) → I1 a j = I a j := fun a j h h' => (a2 a j (by omega)).trans (f0 a j h)
  have f2 : ∀ a j, a ≠ t → (a < t + 5 ∨ t + 23 ≤ a) → I2 a j = I a j := fun a j h h' => (b2 a j (by omega)).trans (f1 a j h (by omega))
  have e0 : ∀ j, I3 t j = zwI (zwI (zwI (zwI (zwI I t 0 (I u 0)) t 1 (I u 1)) t 2 (I u 2)) t 3 (I u 3)) t 4 (I u 4) t j := fun j => (c2 t j (by omega) (by omega)).trans ((b2 t j (by omega)).trans (a2 t j (by omega)))
  refine ⟨I3, ?_, ⟨?_, ?_, ?_, ?_, ?_, fun i hi => ?_, fun e he => ?_, fun p q hp hq => ?_, fun s hs => ?_⟩, fun a ha => funext fun j => (c2 a j (by omega) (by omega)).trans (f2 a j (by omega) (by omega))⟩
  · refine ((zcal_go zp_Table_become rfl).trans zb_Table_become_0).trans ?_
    simp only [if_true, if_false, Option.bind_some, Option.bind, Option.toList, List.cons_append, List.nil_append, zite0, zite1, zite01, znn, ite_not, true_or, or_true, true_and, and_true, zn10, zn00, hl.1, hu.1, zw_I, eu]
    exact a1.trans (b1.trans c1)
  · rw [e0, zwI_nej (by omega), zwI_nej (by omega), zwI_nej (by omega), zwI_nej (by omega), zwI_eq]; exact h1
  · rw [e0, zwI_nej (by omega), zwI_nej (by omega), zwI_nej (by omega), zwI_eq]; exact h2
  · rw [e0, zwI_nej (by omega), zwI_nej (by omega), zwI_eq]; exact h3
  · rw [e0, zwI_nej (by omega), zwI_eq]; exact h4
  · rw [e0, zwI_eq]; exact h5
  · have g : ∀ j, j < 3 → I3 (t + 5 + i) j = I (u + 5 + i) j := fun j hj => (c2 _ _ (by omega) (by omega)).trans ((b2 _ _ (by omega)).trans ((a3 i (by omega) hi j hj).trans (f0 _ _ (by omega))))
    rw [g 0 (by omega), g 1 (by omega), g 2 (by omega)]; exact h6 i hi
  · have g : ∀ j, j < 2 → I3 (t + 19 + e) j = I (u + 19 + e) j := fun j hj => (c2 _ _ (by omega) (by omega)).trans ((b3 e (by omega) he j hj).trans (f1 _ _ (by omega) (by omega)))
    rw [g 0 (by omega), g 1 (by omega)]; exact h7 e he
  · rw [c4 p (by omega) hp q hq, f2 _ _ (by omega) (by omega)]; exact h8 p q hp hq
  · rw [c3 s hs, f2 _ _ (by omega) (by omega)]; exact h9 s hs
theorem zm_copies_l {a b : Nat} (ha : (L.2.1 a) = (2, (96, 0))) (hb : (L.2.1 b) = (2, (96, 0))) (hab : a ≠ b) : ∀ (m i : Nat) (I : Nat → Nat → Int), i + m = 81 → ∃ I', zgo X C zc_M_copies 2 [some (.inr (.inr (.inl a))), some (.inr (.inr (.inl b))), some (.inl (i : Int))] [] (I, L) = some (none, (I', L)) ∧ (∀ c, c ≠ b → I' c = I c) ∧ (∀ j, j < i → I' b j = I b j) ∧ ∀ j, i ≤ j → j < 81 → I' b j = I a j := by
  intro m
  induction m with
  | zero =>
    intro i I hi
    refine ⟨I, ?_, fun c _ => rfl, fun j _ => rfl, fun e h1 h2 => absurd h1 (by omega)⟩
    rw [zb_M_copies_2, if_neg (by omega)]
  | succ m ih =>
    intro i I hi
    have g1 : ((L.2.1 a).1 = 2 ∧ 0 ≤ (i : Int) ∧ (i : Int) < ((L.2.1 a).2.1 : Int)) = True := by
      rw [ha]
      exact eq_true ⟨rfl, by omega, by show (i : Int) < ((96 : Nat) : Int); omega⟩
    have g2 : ((L.2.1 b).1 = 2 ∧ 0 ≤ (i : Int) ∧ (i : Int) < ((L.2.1 b).2.1 : Int)) = True := by
      rw [hb]
      exact eq_true ⟨rfl, by omega, by show (i : Int) < ((96 : Nat) : Int); omega⟩
    obtain ⟨I', q1, q2, q3, q4⟩ := ih (i + 1) (zwI I b i (I a i)) (by omega)
    rw [zb_M_copies_2, if_pos (by omega)]
    simp only [if_true, if_false, Option.bind_some, Option.bind, Option.toList, List.cons_append, List.nil_append, zite0, zite1, zite01, znn, ite_not, true_or, or_true, true_and, and_true, zn10, zn00, g1, g2, Int.toNat_natCast, zw_I]
    rw [zw32n (by omega)]
    refine ⟨I', q1, fun c h => (q2 c h).trans (zwI_row h), fun j h => (q3 j (by omega)).trans (zwI_nej (by omega)), fun j h1 h2 => ?_⟩
    by_cases he : j = i
    · rw [he, q3 _ (by omega), zwI_eq]
    · rw [q4 j (by omega) h2, zwI_ne hab]
theorem zq_M_copies {a b : Nat} {I : Nat → Nat → Int} (ha : (L.2.1 a) = (2, (96, 0))) (hb : (L.2.1 b) = (2, (96, 0))) (hab : a ≠ b) : ∃ I', zcal X zP (d + 1) 142 [.inr (.inr (.inl a)), .inr (.inr (.inl b))] (I, L) = some (none, (I', L)) ∧ (∀ c, c ≠ b → I' c = I c) ∧ ∀ j, j < 81 → I' b j = I a j := by
  obtain ⟨I', q1, q2, -, q4⟩ := zm_copies_l (X := X) (C := zcal X zP d) ha hb hab 81 0 I (by omega)
  refine ⟨I', ?_, q2, fun j hj => q4 j (by omega) hj⟩
  refine ((zcal_go zp_M_copies rfl).trans zb_M_copies_0).trans ?_
  exact q1
theorem zTM_cp {a b : Nat} {I I' : Nat → Nat → Int} {T : zTb} (h14 : T.2.1 ≤ 14) (hc : ∀ j, j < 81 → I' b j = I a j) (h : zTM I a T) : zTM I' b T := by
  obtain ⟨h1, h2, h3⟩ := h
  refine ⟨fun j hj => (hc j (by omega)).trans (h1 j hj), (hc 1 (by omega)).trans h2, fun i hi => ?_⟩
  rw [hc _ (by omega), hc _ (by omega), hc _ (by omega)]
  exact h3 i hi
def zr_image (S : zSt) : zV × zSt := (.inl 1, (S.1, (1, (S.1, S.2.2.2))))
theorem zx_image (hL : zLay L) (ho : zSOK n S) : zHX X L (d + 3) 115 [] S (zr_image S) := by
  intro I hr
  have h14 := ho.1.2.2.2.2.1
  obtain ⟨I', q1, q2, q3⟩ := zq_become_t (X := X) (d := d) (ztabL hL (t := 29) (by omega)) (ztabL hL (t := 2) (by omega)) (by omega) hr.1 h14
  obtain ⟨h1, h2, h3, h4, h5, h6, h7⟩ := hr
  refine ⟨zwI I' 1 3 1, ?_, ⟨?_, zwI_eq, fun _ => ?_, ?_, fun j hj => ?_, fun s hs => ?_, fun k hk => ?_⟩, fun a ha => (zwI_row (by omega)).trans (q3 a (by omega))⟩
  · refine ((zcal_go zp_X_image rfl).trans zb_X_image_0).trans ?_
    simp only [if_true, if_false, Option.bind_some, Option.bind, Option.toList, List.cons_append, List.nil_append, zite0, zite1, zite01, znn, ite_not, true_or, or_true, true_and, and_true, zn10, zn00, zk_1 hL, zr_1_0 hL, zk_2 hL, zr_1_1 hL, zk_29 hL, q1, zb_X_image_11, zw_I, zr_image]
  · exact zTC_row h14 (fun a _ ha => (zwI_row (by omega)).trans (q3 a (by omega))) h1
  · exact zTC_row h14 (fun a _ ha => zwI_row (by omega)) q2
  · rw [zwI_ne (by omega), q3 _ (by omega)]; exact h4
  · rw [zwI_ne (by omega), q3 _ (by omega)]; exact h5 j hj
  · rw [zwI_row (by omega), zwI_row (by omega), q3 _ (by omega), q3 _ (by omega)]; exact h6 s hs
  · rw [zwI_ne (by omega), q3 _ (by omega)]; exact h7 k hk
theorem zm_image (hL : zLay L) (ho : zSOK n S) : zHM X L (d + 2) 239 [] S (zr_image S) := by
  intro I hr
  have h14 := ho.1.2.2.2.2.1
  obtain ⟨I', q1, q2, q3⟩ := zq_M_copies (X := X) (d := d) (I := I) (zk_136 hL) (zk_138 hL) (by omega)
  obtain ⟨h1, h2, h3, h4, h5, h6, h7⟩ := hr
  refine ⟨zwI I' 135 3 1, ?_, ⟨?_, zwI_eq, fun _ => ?_, ?_, fun j hj => ?_, fun s hs => ?_, fun k hk => ?_⟩, fun a ha => (zwI_row (by omega)).trans (q2 a (by omega))⟩
  · refine ((zcal_go zp_M_image rfl).trans zb_M_image_0).trans ?_
    simp only [if_true, if_false, Option.bind_some, Option.bind, Option.toList, List.cons_append, List.nil_append, zite0, zite1, zite01, znn, ite_not, true_or, or_true, true_and, and_true, zn10, zn00, zk_135 hL, zr_135_0 hL, z6_0 hL, z6_1 hL, z6_2 hL, z6_3 hL, z6_4 hL, zr_135_2 hL, q1, zb_M_image_11, zw_I, zr_image]
  · exact zTM_row ((zwI_row (by omega)).trans (q2 _ (by omega))) h1
  · exact zTM_row (zwI_row (by omega)) (zTM_cp h14 q3 h1)
  · rw [zwI_nej (by omega), q2 _ (by omega)]; exact h4
  · rw [zwI_ne (by omega), q2 _ (by omega)]; exact h5 j hj
  · rw [zwI_row (by omega), zwI_row (by omega), zwI_row (by omega), q2 _ (by omega), q2 _ (by omega), q2 _ (by omega)]; exact h6 s hs
  · rw [zwI_ne (by omega), q2 _ (by omega)]; exact h7 k hk
theorem zo_image (ho : zSOK n S) (hn : n < 100000) : zSOK (n + 1) (zr_image S).2 := by
  obtain ⟨h1, h2, h3, h4⟩ := zSOK_up ho hn
  exact ⟨h1, Or.inr rfl, fun _ => h1, h4⟩
theorem zA45 (hL : zLay L) : zA_45 X L := fun n S ho hn => zCI (zr_image S) ⟨_, rfl⟩ (zx_image (d := 37) hL ho) (zm_image (d := 38) hL ho) (zo_image ho hn)
def zr_undo (S : zSt) : zV × zSt := if S.2.1 = 0 then (.inl (-1000004), zSf S 3) else (.inl (S.2.2.1.2.1 : Int), zS1 S S.2.2.1)
theorem zx_undo (hL : zLay L) (ho : zSOK n S) : zHX X L (d + 3) 116 [] S (zr_undo S) := by
  intro I hr
  have h13 : I 1 3 = S.2.1 := hr.2.1
  unfold zr_undo
  by_cases h0 : S.2.1 = 0
  · rw [if_pos h0]
    obtain ⟨I', h1, h2, h3⟩ := zX_tellc (X := X) (d := d + 1) (k := 3) (c := -1000004) hL ho (by omega) (by omega) hr
    refine ⟨I', ?_, h2, h3⟩
    refine ((zcal_go zp_X_undo rfl).trans zb_X_undo_0).trans ?_
    simp only [if_true, if_false, Option.bind_some, Option.bind, Option.toList, List.cons_append, List.nil_append, zite0, zite1, zite01, znn, ite_not, true_or, or_true, true_and, and_true, zn10, zn00, zk_1 hL, zr_1_0 hL, zk_2 hL, h13, eq_true h0, h1, zb_X_undo_13]
  · rw [if_neg h0]
    have hk := ho.2.1.resolve_left h0
    have h14 := (ho.2.2.1 hk).2.2.2.2.1
    obtain ⟨I', q1, q2, q3⟩ := zq_become_t (X := X) (d := d) (ztabL hL (t := 2) (by omega)) (ztabL hL (t := 29) (by omega)) (by omega) (hr.2.2.1 hk) h14
    have e : I' 2 2 = (S.2.2.1.2.1 : Int) := q2.2.2.1
    refine ⟨I', ?_, zRX_T ho ⟨by rw [q3 _ (by omega)], fun a _ _ => q3 _ (by omega), by rw [q3 _ (by omega)], q3 _ (by omega), q3 _ (by omega), fun a _ _ => q3 _ (by omega)⟩ q2 hr, fun a ha => q3 a (by omega)⟩
    refine ((zcal_go zp_X_undo rfl).trans zb_X_undo_0).trans ?_
    simp only [if_true, if_false, Option.bind_some, Option.bind, Option.toList, List.cons_append, List.nil_append, zite0, zite1, zite01, znn, ite_not, true_or, or_true, true_and, and_true, zn10, zn00, zk_1 hL, zr_1_0 hL, zk_2 hL, h13, eq_false h0, zr_1_1 hL, q1, zb_X_undo_25, e]
theorem zm_undo (hL : zLay L) (ho : zSOK n S) : zHM X L (d + 2) 240 [] S (zr_undo S) := by
  intro I hr
  have h13 : I 135 3 = S.2.1 := hr.2.1
  unfold zr_undo
  by_cases h0 : S.2.1 = 0
  · rw [if_pos h0]
    obtain ⟨I', h1, h2, h3⟩ := zM_findsc (X := X) (d := d) (k := 3) (c := -1000004) (k' := 3) hL ho (by omega) (by omega) (by omega) hr
    refine ⟨I', ?_, h2, h3⟩
    refine ((zcal_go zp_M_undo rfl).trans zb_M_undo_0).trans ?_
    simp only [if_true, if_false, Option.bind_some, Option.bind, Option.toList, List.cons_append, List.nil_append, zite0, zite1, zite01, znn, ite_not, true_or, or_true, true_and, and_true, zn10, zn00, zk_135 hL, zr_135_0 hL, z6_0 hL, z6_1 hL, z6_2 hL, z6_3 hL, z6_4 hL, h13, eq_true h0, h1, zb_M_undo_12]
  · rw [if_neg h0]
    have hk := ho.2.1.resolve_left h0
    have h14 := (ho.2.2.1 hk).2.2.2.2.1
    obtain ⟨I', q1, q2, q3⟩ := zq_M_copies (X := X) (d := d) (I := I) (zk_138 hL) (zk_136 hL) (by omega)
    have hT := zTM_cp h14 q3 (hr.2.2.1 hk)
    have e : I' 136 1 = (S.2.2.1.2.1 : Int) := hT.2.1
    refine ⟨I', ?_, zRM_T ⟨by rw [q2 _ (by omega)], by rw [q2 _ (by omega)], q2 _ (by omega), q2 _ (by omega), q2 _ (by omega), q2 _ (by omega), q2 _ (by omega), q2 _ (by omega)⟩ hT hr, fun a ha => q2 a (by omega)⟩
    refine ((zcal_go zp_M_undo rfl).trans zb_M_undo_0).trans ?_
    simp only [if_true, if_false, Option.bind_some, Option.bind, Option.toList, List.cons_append, List.nil_append, zite0, zite1, zite01, znn, ite_not, true_or, or_true, true_and, and_true, zn10, zn00, zk_135 hL, zr_135_0 hL, z6_0 hL, z6_1 hL, z6_2 hL, z6_3 hL, z6_4 hL, h13, eq_false h0, zr_135_2 hL, q1, zb_M_undo_24, e]
theorem zo_undo (ho : zSOK n S) (hn : n < 100000) : zSOK (n + 1) (zr_undo S).2 := by
  unfold zr_undo
  split
  · exact zSOK_f ho (by omega) hn
  · next h0 =>
    have hk := ho.2.1.resolve_left h0
    obtain ⟨h1, h2, h3, h4⟩ := zSOK_up ho hn
    exact ⟨h3 hk, h2, h3, h4⟩
theorem zA46 (hL : zLay L) : zA_46 X L := fun n S ho hn => zCI (zr_undo S) (by unfold zr_undo; repeat' (first | exact ⟨_, rfl⟩ | refine zif1 ?_ ?_)) (zx_undo (d := 37) hL ho) (zm_undo (d := 38) hL ho) (zo_undo ho hn)
end
