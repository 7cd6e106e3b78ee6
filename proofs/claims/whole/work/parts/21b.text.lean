/-! TEXT: the reference's step; what words are worth. -/
/-- what a token's value is in the reference -/
def zTg (B : Nat → Int) (t : zTo) (N : Int) : Prop := (t.1 = 1 → N = zwv B t.2.1 (t.2.2.1 - t.2.1) ∧ ∀ i, i < t.2.2.1 - t.2.1 → zLr (B (t.2.1 + i))) ∧ (t.1 = 2 → zNN t.2.2.2 N) ∧ (t.1 = 3 → t.2.2.1 = t.2.1 + 1)
section
variable {X : zX} {C : zC} {d n : Nat} {L : zLt} {I : Nat → Nat → Int} {σ : zMem}
theorem zq_M_next (hL : zLay L) (hB : zBy (I 140) n) (h6 : I 135 6 = (n : Int)) {p : Nat} (hp : p ≤ n) (h22 : I 135 22 = (p : Int)) : ∃ I', zcal X zP (d + 2) 217 [.inr (.inr (.inl 135))] (I, L) = some (none, (I', L)) ∧ (∀ a, a ≠ 135 → I' a = I a) ∧ (∀ j, (j < 22 ∨ 25 < j) → I' 135 j = I 135 j) ∧ I' 135 23 = (ztk (I 140) n p).1 ∧ I' 135 24 = ((ztk (I 140) n p).2.1 : Int) ∧ ((ztk (I 140) n p).1 ≠ 4 → I' 135 22 = ((ztk (I 140) n p).2.2.1 : Int)) ∧ zTg (I 140) (ztk (I 140) n p) (I' 135 25) := by
  obtain ⟨I1, a1, a2, a3, a4, a5, a6⟩ := zm_sk (X := X) (d := d) hL hB.1 (n - p) p I (by omega) h6 h22
  have hin := zsk_in (B := I 140) (n - p) p
  have et : ztk (I 140) n p = (zsa (I 140) n (zsk (I 140) (n - p) p), (zsk (I 140) (n - p) p, zrn (I 140) (zsa (I 140) n (zsk (I 140) (n - p) p)) (n - zsk (I 140) (n - p) p) (zsk (I 140) (n - p) p) 0)) := rfl
  generalize zsk (I 140) (n - p) p = q at *
  rw [et]
  have r6 : I1 135 6 = (n : Int) := (a3 6 (by omega) (by omega) (by omega)).trans h6
  have r140 : I1 140 = I 140 := a2 140 (by omega)
  have hcall : ∀ {I' : Nat → Nat → Int}, zgo X (zcal X zP (d + 1)) zc_M_next 47 [some (.inr (.inr (.inl 135))), none] [.inl (zbt (I 140) n q)] (I1, L) = some (none, (I', L)) → zcal X zP (d + 2) 217 [.inr (.inr (.inl 135))] (I, L) = some (none, (I', L)) := fun h => (zcal_go zp_M_next rfl).trans (a1.trans h)
  by_cases hq : q < n
  · rw [zbt_y hq] at hcall
    have hs : zsa (I 140) n q = zsb (I 140 q) := if_pos hq
    have hne : ((q : Int) = (n : Int)) = False := eq_false (by omega)
    have hsb := zsb_ok (b := I 140 q)
    have hbb := hB.2 q hq
    obtain ⟨m, hm⟩ : ∃ m, n - q = m + 1 := ⟨n - q - 1, by omega⟩
    rw [hs]
    by_cases c3 : I 140 q = 59
    · have e3 : zsb (I 140 q) = 3 := zsb_3i.2 c3
      have er : zrn (I 140) 3 (n - q) q 0 = (q + 1, 0) := by
        rw [hm]
        unfold zrn
        rw [if_pos e3, if_pos rfl]
      have hqm : q < 1000000 := by have := hB.1; omega
      rw [e3, er]
      have r22 : zwI I1 135 23 3 135 22 = (q : Int) := by rw [zwI_nej (by omega)]; exact a4
      refine ⟨zwI (zwI I1 135 23 3) 135 22 ((q + 1 : Nat) : Int), hcall ?_, fun a ha => by rw [zwI_row ha, zwI_row ha]; exact a2 a ha, fun j hj => by rw [zwI_nej (by omega), zwI_nej (by omega)]; exact a3 j (by omega) (by omega) (by omega), by rw [zwI_nej (by omega), zwI_eq], by rw [zwI_nej (by omega), zwI_nej (by omega)]; exact a5, fun _ => zwI_eq, fun h => absurd (show (3 : Int) = 1 from h) (by decide), fun h => absurd (show (3 : Int) = 2 from h) (by decide), fun _ => rfl⟩
      refine zb_M_next_47.trans ?_
      simp only [if_true, if_false, Option.bind_some, Option.bind, Option.toList, List.cons_append, List.nil_append, zite0, zite1, zite01, znn, ite_not, true_or, or_true, true_and, and_true, zn10, zn00, zk_135 hL, zr_135_0 hL, z6_0 hL, z6_1 hL, z6_2 hL, z6_3 hL, z6_4 hL, a4, r6, hne, eq_true c3, zw_I, r22, zw32n hqm]
    · have h3 : ¬ zsb (I 140 q) = 3 := fun h => c3 (zsb_3i.1 h)
      have hlt := zq_M_letter (X := X) (d := d) (σ := (I1, L)) hbb
      by_cases c1 : zLr (I 140 q)
      · have e1 : zsb (I 140 q) = 1 := zsb_1i.2 c1
        rw [zltr_y c1] at hlt
        have h0l : (0 < I 140 q - 96) = True := eq_true (by omega)
        rw [e1]
        generalize hI2 : zwI I1 135 23 1 = I2
        have s140 : I2 140 = I 140 := by rw [← hI2, zwI_row (by omega)]; exact r140
        obtain ⟨I', l', b1, b2, b3, b4, b5, b6⟩ := zm_wd (X := X) (d := d) hL hB (st := q) (b0 := I 140 q) (n - q) 0 I2 (by omega) s140 (by rw [← hI2, zwI_nej (by omega)]; exact r6) (by rw [← hI2, zwI_nej (by omega)]; exact a4) (by rw [← hI2, zwI_nej (by omega)]; exact a6) (fun i hi => absurd hi (by omega))
        have hr := b3 0
        rw [Nat.add_zero] at hr
        have hd : (zrn (I 140) 1 (n - q) q 0).1 - q = l' := by omega
        refine ⟨I', hcall ?_, fun a ha => funext fun j => (b2 a j (Or.inl ha)).trans (by rw [← hI2, zwI_row ha, a2 a ha]), fun j hj => (b2 135 j (by omega)).trans (by rw [← hI2, zwI_nej (by omega)]; exact a3 j (by omega) (by omega) (by omega)), (b2 135 23 (by omega)).trans (by rw [← hI2, zwI_eq]), (b2 135 24 (by omega)).trans (by rw [← hI2, zwI_nej (by omega)]; exact a5), fun _ => b4.trans (by rw [hr]), fun _ => ?_, fun h => absurd (show (1 : Int) = 2 from h) (by decide), fun h => absurd (show (1 : Int) = 3 from h) (by decide)⟩
        · refine zb_M_next_47.trans ?_
          simp only [if_true, if_false, Option.bind_some, Option.bind, Option.toList, List.cons_append, List.nil_append, zite0, zite1, zite01, znn, ite_not, true_or, or_true, true_and, and_true, zn10, zn00, zk_135 hL, zr_135_0 hL, z6_0 hL, z6_1 hL, z6_2 hL, z6_3 hL, z6_4 hL, a4, r6, hne, eq_false c3, hlt, zb_M_next_95, h0l, zw_I, hI2, b1]
        · show _ = zwv (I 140) q ((zrn (I 140) 1 (n - q) q 0).1 - q) ∧ ∀ i, i < (zrn (I 140) 1 (n - q) q 0).1 - q → zLr (I 140 (q + i))
          rw [hd]
          exact ⟨b5, b6⟩
      · have h1 : ¬ zsb (I 140 q) = 1 := fun h => c1 (zsb_1i.1 h)
        rw [zltr_n c1] at hlt
        have h00 : ((0 : Int) < 0) = False := eq_false (by decide)
        have hdg := zq_M_digit (X := X) (d := d) (σ := (I1, L)) (b := I 140 q)
        by_cases c2 : 48 ≤ I 140 q ∧ I 140 q ≤ 57
        · have e2 : zsb (I 140 q) = 2 := zsb_2i.2 c2
          rw [if_pos c2] at hdg
          rw [e2]
          have e10 : ((1 : Int) = 0) = False := eq_false (by decide)
          generalize hI2 : zwI I1 135 23 2 = I2
          have s140 : I2 140 = I 140 := by rw [← hI2, zwI_row (by omega)]; exact r140
          obtain ⟨I', N', b1, b2, b3, b4, b5⟩ := zm_nb (X := X) (d := d) hL hB (b0 := I 140 q) (n - q) q 0 0 I2 (by omega) s140 (by rw [← hI2, zwI_nej (by omega)]; exact r6) (by rw [← hI2, zwI_nej (by omega)]; exact a4) (by rw [← hI2, zwI_nej (by omega)]; exact a6) (Or.inl ⟨by decide, by decide, rfl⟩)
          refine ⟨I', hcall ?_, fun a ha => funext fun j => (b2 a j (Or.inl ha)).trans (by rw [← hI2, zwI_row ha, a2 a ha]), fun j hj => (b2 135 j (by omega)).trans (by rw [← hI2, zwI_nej (by omega)]; exact a3 j (by omega) (by omega) (by omega)), (b2 135 23 (by omega)).trans (by rw [← hI2, zwI_eq]), (b2 135 24 (by omega)).trans (by rw [← hI2, zwI_nej (by omega)]; exact a5), fun _ => b3, fun h => absurd (show (2 : Int) = 1 from h) (by decide), fun _ => by rw [b4]; exact b5, fun h => absurd (show (2 : Int) = 3 from h) (by decide)⟩
          refine zb_M_next_47.trans ?_
          simp only [if_true, if_false, Option.bind_some, Option.bind, Option.toList, List.cons_append, List.nil_append, zite0, zite1, zite01, znn, ite_not, true_or, or_true, true_and, and_true, zn10, zn00, zk_135 hL, zr_135_0 hL, z6_0 hL, z6_1 hL, z6_2 hL, z6_3 hL, z6_4 hL, a4, r6, hne, eq_false c3, hlt, zb_M_next_95, h00, hdg, zb_M_next_177, e10, zw_I, hI2, b1]
        · have h2 : ¬ zsb (I 140 q) = 2 := fun h => c2 (zsb_2i.1 h)
          have e4 : zsb (I 140 q) = 4 := by omega
          rw [if_neg c2] at hdg
          rw [e4]
          refine ⟨zwI I1 135 23 4, hcall ?_, fun a ha => by rw [zwI_row ha]; exact a2 a ha, fun j hj => by rw [zwI_nej (by omega)]; exact a3 j (by omega) (by omega) (by omega), zwI_eq, by rw [zwI_nej (by omega)]; exact a5, fun h => absurd rfl h, fun h => absurd (show (4 : Int) = 1 from h) (by decide), fun h => absurd (show (4 : Int) = 2 from h) (by decide), fun h => absurd (show (4 : Int) = 3 from h) (by decide)⟩
          refine zb_M_next_47.trans ?_
          simp only [if_true, if_false, Option.bind_some, Option.bind, Option.toList, List.cons_append, List.nil_append, zite0, zite1, zite01, znn, ite_not, true_or, or_true, true_and, and_true, zn10, zn00, zk_135 hL, zr_135_0 hL, z6_0 hL, z6_1 hL, z6_2 hL, z6_3 hL, z6_4 hL, a4, r6, hne, eq_false c3, hlt, zb_M_next_95, h00, hdg, zb_M_next_177, zw_I]
  · have hs : zsa (I 140) n q = 0 := if_neg hq
    have hqn : q = n := by omega
    have heq : ((q : Int) = (n : Int)) = True := eq_true (by omega)
    have er : zrn (I 140) 0 (n - q) q 0 = (q, 0) := by
      rw [show n - q = 0 by omega]
      rfl
    rw [hs, er]
    refine ⟨zwI I1 135 23 0, hcall ?_, fun a ha => by rw [zwI_row ha]; exact a2 a ha, fun j hj => by rw [zwI_nej (by omega)]; exact a3 j (by omega) (by omega) (by omega), zwI_eq, by rw [zwI_nej (by omega)]; exact a5, fun _ => by rw [zwI_nej (by omega)]; exact a4, fun h => absurd (show (0 : Int) = 1 from h) (by decide), fun h => absurd (show (0 : Int) = 2 from h) (by decide), fun h => absurd (show (0 : Int) = 3 from h) (by decide)⟩
    refine zb_M_next_47.trans ?_
    simp only [if_true, if_false, Option.bind_some, Option.bind, Option.toList, List.cons_append, List.nil_append, zite0, zite1, zite01, znn, ite_not, true_or, or_true, true_and, and_true, zn10, zn00, zk_135 hL, zr_135_0 hL, z6_0 hL, z6_1 hL, z6_2 hL, z6_3 hL, z6_4 hL, a4, r6, heq, zw_I]
end
def zcwd (f : Nat → Int) : Nat → Int
  | 0 => 0
  | m + 1 => zcwd f m * 27 + (f m - 96)
theorem zcw_in {f : Nat → Int} : ∀ m : Nat, (∀ i, i < m → zLr (f i)) → 0 ≤ zcwd f m := by
  intro m
  induction m with
  | zero => intro _; exact Int.le_refl _
  | succ m ih =>
    intro h
    have h1 := ih (fun i hi => h i (by omega))
    have h2 := h m (by omega)
    unfold zcwd
    omega
/-- a word has its value, and no other word has -/
theorem zwv_cw {B f : Nat → Int} {st : Nat} : ∀ (m len : Nat), (∀ i, i < m → zLr (f i)) → zcwd f m ≤ 100000000000000000 → (∀ i, i < len → zLr (B (st + i))) → (zwv B st len = zcwd f m ↔ len = m ∧ ∀ i, i < m → B (st + i) = f i) := by
  intro m
  induction m with
  | zero =>
    intro len hf _ hl
    cases len with
    | zero => exact ⟨fun _ => ⟨rfl, fun i hi => absurd hi (by omega)⟩, fun _ => rfl⟩
    | succ l =>
      have h1 := zwv_in l (fun i hi => hl i (by omega))
      have h2 := hl l (by omega)
      constructor
      · intro h
        have h : (if 100000000000000000 < zwv B st l then zwv B st l else zwv B st l * 27 + (B (st + l) - 96)) = 0 := h
        split at h <;> omega
      · intro h; exact absurd h.1 (by omega)
  | succ m ih =>
    intro len hf hc hl
    have g1 := zcw_in m (fun i hi => hf i (by omega))
    have g2 := hf m (by omega)
    have ec : zcwd f (m + 1) = zcwd f m * 27 + (f m - 96) := rfl
    rw [ec] at hc ⊢
    cases len with
    | zero =>
      constructor
      · intro h
        have h : 0 = zcwd f m * 27 + (f m - 96) := h
        omega
      · intro h; exact absurd h.1 (by omega)
    | succ l =>
      have h1 := zwv_in l (fun i hi => hl i (by omega))
      have h2 := hl l (by omega)
      have hi := ih l (fun i hi => hf i (by omega)) (by omega) (fun i hi => hl i (by omega))
      have ev : zwv B st (l + 1) = if 100000000000000000 < zwv B st l then zwv B st l else zwv B st l * 27 + (B (st + l) - 96) := rfl
      rw [ev]
      constructor
      · intro h
        have hz : zwv B st l = zcwd f m ∧ B (st + l) = f m := by
          split at h <;> omega
        obtain ⟨e1, e2⟩ := hi.1 hz.1
        refine ⟨by omega, fun i hi2 => ?_⟩
        by_cases e : i = m
        · rw [e, ← e1, hz.2, e1]
        · exact e2 i (by omega)
      · intro h
        obtain ⟨e1, e2⟩ := h
        have e1 : l = m := by omega
        have hz := hi.2 ⟨e1, fun i hi2 => e2 i (by omega)⟩
        have hm := e2 m (by omega)
        rw [← e1] at hm
        rw [if_neg (by omega), hz, hm, e1]
/-- the words' values -/
def zcod : Nat → Int
  | 4 => 316189
  | 5 => 3294020
  | 6 => 242939
  | 7 => 92275
  | 8 => 12387666
  | 9 => 383153
  | 10 => 9454493
  | 11 => 11800
  | 12 => 158575
  | 13 => 4325
  | 14 => 382984
  | 15 => 235997865
  | 16 => 8930039
  | 17 => 10492070
  | 18 => 1162531
  | _ => 0
def zXC (X : zX) : Prop := ∀ x, 4 ≤ x → x ≤ 18 → (∀ i, i < (X x).1 → zLr ((X x).2 i)) ∧ zcwd (X x).2 (X x).1 = zcod x
theorem zcod_le {x : Nat} : zcod x ≤ 100000000000000000 := by
  unfold zcod
  split <;> decide
