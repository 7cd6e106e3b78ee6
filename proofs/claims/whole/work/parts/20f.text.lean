/-! TEXT: the class's items: players. -/
/-- what a player has: told or not -/
def zrdo (X : zX) (B : Nat → Int) (n e w : Nat) (t : zTo) (T : zTb) : Int × (zTo × zTb) :=
  if zWd X B t (16 + w) then
    (if zNm (znx1 B n t) (zleast (w : Int)) (zmost (w : Int)) then (1, (znx1 B n (znx1 B n t), zTset T (55 + 4 * e + w) (znx1 B n t).2.2.2)) else (0, (znx1 B n t, T)))
    else (1, (t, T))
def zrdl (X : zX) (B : Nat → Int) (n e : Nat) : Nat → Nat → zTo → zTb → Int × (zTo × zTb)
  | 0, _, t, T => (1, (t, T))
  | m + 1, w, t, T => if (zrdo X B n e w t T).1 = 1 then zrdl X B n e m (w + 1) (zrdo X B n e w t T).2.1 (zrdo X B n e w t T).2.2 else zrdo X B n e w t T
def zrdq (X : zX) (B : Nat → Int) (n : Nat) (T : zTb) (t : zTo) : Int × (zTo × zTb) :=
  if zNm (znx1 B n t) 0 3 then zrdl X B n (znx1 B n t).2.2.2.toNat 3 0 (znx1 B n (znx1 B n t)) T else (0, (znx1 B n t, T))
def zX23 (X : zX) : Prop := (X 2).1 = 3 ∧ (X 3).1 = 3 ∧ ∀ w : Nat, w < 3 → (X 2).2 w = zleast (w : Int) ∧ (X 3).2 w = zmost (w : Int)
section
variable {X : zX} {C : zC} {d n nn : Nat} {L : zLt} {T : zTb} {I : Nat → Nat → Int} {B : Nat → Int} {t : zTo}
theorem zq_becom3 {J : Nat → Nat → Int} {p w : Nat} {v : Int} (l4 : L.2.1 p = (1, (3, 0))) (hw : w < 3) : zcal X zP (d + 1) 15 [.inr (.inr (.inl p)), .inl (w : Int), .inl v] (J, L) = some (none, (zwI J p w v, L)) := by
  refine ((zcal_go zp_Player_become rfl).trans zb_Player_become_0).trans ?_
  rcases (show w = 0 ∨ w = 1 ∨ w = 2 by omega) with rfl | rfl | rfl
  · refine (zb_Player_become_1_0).trans ?_
    simp only [if_true, if_false, Option.bind_some, Option.bind, Option.toList, List.cons_append, List.nil_append, zite0, zite1, zite01, znn, ite_not, true_or, or_true, true_and, and_true, zn10, zn00, l4, zw_I]
  · refine (zb_Player_become_1_1).trans ?_
    simp only [if_true, if_false, Option.bind_some, Option.bind, Option.toList, List.cons_append, List.nil_append, zite0, zite1, zite01, znn, ite_not, true_or, or_true, true_and, and_true, zn10, zn00, l4, zw_I]
  · refine (zb_Player_become_1_d (by decide) (by decide)).trans ?_
    simp only [if_true, if_false, Option.bind_some, Option.bind, Option.toList, List.cons_append, List.nil_append, zite0, zite1, zite01, znn, ite_not, true_or, or_true, true_and, and_true, zn10, zn00, l4, zw_I, zb_Player_become_44]
theorem zs_own (hL : zLay L) (hX : zWX X) (h23 : zX23 X) (hB : zBy B n) {e : Nat} (he : e < 4) : ∀ (m w : Nat) (t : zTo) (T : zTb) (o : Option zV) (I : Nat → Nat → Int), w + m = 3 → T.2.1 ≤ 14 → zRdr I B n t T → ∃ I', zgo X (zcal X zP (d + 3)) zc_Tape_readPlayer 19 [some (.inr (.inr (.inl 123))), some (.inr (.inr (.inl 56))), some (.inl (e : Int)), some (.inl (w : Int)), o] [] (I, L) = some (some (.inl (zrdl X B n e m w t T).1), (I', L)) ∧ zRdr I' B n (zrdl X B n e m w t T).2.1 (zrdl X B n e m w t T).2.2 ∧ zRFr I I' := by
  intro m
  induction m with
  | zero =>
    intro w t T o I hw h14 h
    have h2w : (2 < (w : Int)) = True := eq_true (by omega)
    refine ⟨I, ?_, h, fun _ _ _ => rfl⟩
    refine zb_Tape_readPlayer_19.trans ?_
    simp only [if_true, if_false, Option.bind_some, Option.bind, Option.toList, List.cons_append, List.nil_append, zite0, zite1, zite01, znn, ite_not, true_or, or_true, true_and, and_true, zn10, zn00, h2w]
    try rfl
  | succ m ih =>
    intro w t T o I hw h14 h
    have hwm : w < 1000000 := by omega
    have hw3 : w < 3 := by omega
    have h2w : (2 < (w : Int)) = False := eq_false (by omega)
    have hnm : ∀ σ : zMem, zcal X zP (d + 3) 64 [.inl (w : Int)] σ = some (some (.inr (.inr (.inr (16 + w)))), σ) := by
      intro σ
      rcases (show w = 0 ∨ w = 1 ∨ w = 2 by omega) with rfl | rfl | rfl
      · refine ((zcal_go zp_Tape_nameOfOwn rfl).trans zb_Tape_nameOfOwn_0).trans ?_
        rfl
      · refine ((zcal_go zp_Tape_nameOfOwn rfl).trans zb_Tape_nameOfOwn_0).trans ?_
        rfl
      · refine ((zcal_go zp_Tape_nameOfOwn rfl).trans zb_Tape_nameOfOwn_0).trans ?_
        rfl
    have hwd := zRdr_word (X := X) (d := d + 2) hL hX hB h (x := 16 + w) (by omega) (by omega)
    have eL : zrdl X B n e (m + 1) w t T = if (zrdo X B n e w t T).1 = 1 then zrdl X B n e m (w + 1) (zrdo X B n e w t T).2.1 (zrdo X B n e w t T).2.2 else zrdo X B n e w t T := rfl
    rw [eL]
    by_cases c1 : zWd X B t (16 + w)
    · rw [if_pos c1] at hwd
      obtain ⟨I1, a1, a2, a3⟩ := zRdr_next (X := X) (d := d + 1) hL hB h14 h
      have f2 : (2 < 4 ∧ 0 ≤ (w : Int) ∧ (w : Int) < ((X 2).1 : Int)) = True := eq_true ⟨by omega, by omega, by rw [h23.1]; show (w : Int) < ((3 : Nat) : Int); omega⟩
      have f3 : (3 < 4 ∧ 0 ≤ (w : Int) ∧ (w : Int) < ((X 3).1 : Int)) = True := eq_true ⟨by omega, by omega, by rw [h23.2.1]; show (w : Int) < ((3 : Nat) : Int); omega⟩
      obtain ⟨g2, g3⟩ := h23.2.2 w hw3
      have hge : 0 ≤ zleast (w : Int) := by unfold zleast; split <;> omega
      by_cases c2 : zNm (znx1 B n t) (zleast (w : Int)) (zmost (w : Int))
      · have eo : zrdo X B n e w t T = (1, (znx1 B n (znx1 B n t), zTset T (55 + 4 * e + w) (znx1 B n t).2.2.2)) := (if_pos c1).trans (if_pos c2)
        rw [eo, if_pos rfl]
        have hn1 : ((znx1 B n t).2.2.2 < 0) = False := eq_false (by have := c2.2.1; omega)
        obtain ⟨I2, b1, b2, b3⟩ := zRdr_takeY (X := X) (d := d) hL hB h14 a2 c2
        have htab := ztabL hL (t := 56) (Or.inr (Or.inr rfl))
        obtain ⟨y1, y2⟩ := htab.2.2.2.2.2.2.2.2.2.2.2 e he
        have y1 : L.1 59 e = 56 + 23 + e := y1
        have ge : (((L.2.1 59).1 = 5 ∨ (L.2.1 59).1 = 6) ∧ 0 ≤ (e : Int) ∧ (e : Int) < ((L.2.1 59).2.1 : Int)) = True := by
          rw [zk_59 hL]
          exact eq_true ⟨Or.inl rfl, by omega, show (e : Int) < ((4 : Nat) : Int) by omega⟩
        have hz := zq_becom3 (X := X) (d := d + 2) (J := I2) (v := (znx1 B n t).2.2.2) y2 hw3
        have hf : zRFr I2 (zwI I2 (56 + 23 + e) w (znx1 B n t).2.2.2) := fun a ha _ => zwI_row (by omega)
        obtain ⟨I3, d1, d2, d3⟩ := ih (w + 1) (znx1 B n (znx1 B n t)) (zTset T (55 + 4 * e + w) (znx1 B n t).2.2.2) (some (.inl (znx1 B n t).2.2.2)) _ (by omega) h14 (zRdr_tab b2 hf (zwI_row (by omega)) (zTC_pl he (by omega) h14 b2.2.2.2.2))
        refine ⟨I3, ?_, d2, zRFr_t a3 (zRFr_t b3 (zRFr_t hf d3))⟩
        refine zb_Tape_readPlayer_19.trans ?_
        simp only [if_true, if_false, Option.bind_some, Option.bind, Option.toList, List.cons_append, List.nil_append, zite0, zite1, zite01, znn, ite_not, true_or, or_true, true_and, and_true, zn10, zn00, h2w, hnm, zb_Tape_readPlayer_29, zk_123 hL, hwd, zb_Tape_readPlayer_32, a1, zb_Tape_readPlayer_39, f2, f3, Int.toNat_natCast, g2, g3, b1, zb_Tape_readPlayer_53, hn1, zk_56 hL, zr_56_7 hL, ge, y1, y2, hz, zb_Tape_readPlayer_74, zw32n hwm, d1]
      · have eo : zrdo X B n e w t T = (0, (znx1 B n t, T)) := (if_pos c1).trans (if_neg c2)
        rw [eo, if_neg (show ¬ (0 : Int) = 1 by decide)]
        have b1 := zq_takeN (X := X) (d := d) hL a2.2.2.1 c2
        have hm1 : ((-1 : Int) < 0) = True := eq_true (by decide)
        refine ⟨I1, ?_, a2, a3⟩
        refine zb_Tape_readPlayer_19.trans ?_
        simp only [if_true, if_false, Option.bind_some, Option.bind, Option.toList, List.cons_append, List.nil_append, zite0, zite1, zite01, znn, ite_not, true_or, or_true, true_and, and_true, zn10, zn00, h2w, hnm, zb_Tape_readPlayer_29, zk_123 hL, hwd, zb_Tape_readPlayer_32, a1, zb_Tape_readPlayer_39, f2, f3, Int.toNat_natCast, g2, g3, b1, zb_Tape_readPlayer_53, hm1]
    · rw [if_neg c1] at hwd
      have eo : zrdo X B n e w t T = (1, (t, T)) := if_neg c1
      rw [eo, if_pos rfl]
      obtain ⟨I3, d1, d2, d3⟩ := ih (w + 1) t T o I (by omega) h14 h
      refine ⟨I3, ?_, d2, d3⟩
      refine zb_Tape_readPlayer_19.trans ?_
      simp only [if_true, if_false, Option.bind_some, Option.bind, Option.toList, List.cons_append, List.nil_append, zite0, zite1, zite01, znn, ite_not, true_or, or_true, true_and, and_true, zn10, zn00, h2w, hnm, zb_Tape_readPlayer_29, zk_123 hL, hwd, zb_Tape_readPlayer_32, zb_Tape_readPlayer_74, zw32n hwm, d1]
theorem zq_readPlayer (hL : zLay L) (hX : zWX X) (h23 : zX23 X) (hB : zBy B n) (h14 : T.2.1 ≤ 14) (h : zRdr I B n t T) : ∃ I', zcal X zP (d + 4) 63 [.inr (.inr (.inl 123)), .inr (.inr (.inl 56))] (I, L) = some (some (.inl (zrdq X B n T t).1), (I', L)) ∧ zRdr I' B n (zrdq X B n T t).2.1 (zrdq X B n T t).2.2 ∧ zRFr I I' := by
  unfold zrdq
  obtain ⟨I1, a1, a2, a3⟩ := zRdr_next (X := X) (d := d + 1) hL hB h14 h
  generalize znx1 B n t = t1 at *
  by_cases c1 : zNm t1 0 3
  · rw [if_pos c1]
    have hn1 : (t1.2.2.2 < 0) = False := eq_false (by have := c1.2.1; omega)
    obtain ⟨I2, b1, b2, b3⟩ := zRdr_takeY (X := X) (d := d) hL hB h14 a2 c1
    obtain ⟨e, he⟩ := Int.eq_ofNat_of_zero_le c1.2.1
    have he4 : e < 4 := by have := c1.2.2; omega
    rw [he] at b1 hn1 ⊢
    rw [Int.toNat_natCast]
    obtain ⟨I3, d1, d2, d3⟩ := zs_own (X := X) (d := d) hL hX h23 hB he4 3 0 (znx1 B n t1) T none I2 (by omega) h14 b2
    have d1 : zgo X (zcal X zP (d + 3)) zc_Tape_readPlayer 19 [some (.inr (.inr (.inl 123))), some (.inr (.inr (.inl 56))), some (.inl (e : Int)), some (.inl 0), none] [] (I2, L) = _ := d1
    refine ⟨I3, ?_, d2, zRFr_t a3 (zRFr_t b3 d3)⟩
    refine ((zcal_go zp_Tape_readPlayer rfl).trans zb_Tape_readPlayer_0).trans ?_
    simp only [if_true, if_false, Option.bind_some, Option.bind, Option.toList, List.cons_append, List.nil_append, zite0, zite1, zite01, znn, ite_not, true_or, or_true, true_and, and_true, zn10, zn00, zk_123 hL, a1, zb_Tape_readPlayer_4, b1, zb_Tape_readPlayer_10, hn1, d1]
  · rw [if_neg c1]
    have b1 := zq_takeN (X := X) (d := d) hL a2.2.2.1 c1
    have hm1 : ((-1 : Int) < 0) = True := eq_true (by decide)
    refine ⟨I1, ?_, a2, a3⟩
    refine ((zcal_go zp_Tape_readPlayer rfl).trans zb_Tape_readPlayer_0).trans ?_
    simp only [if_true, if_false, Option.bind_some, Option.bind, Option.toList, List.cons_append, List.nil_append, zite0, zite1, zite01, znn, ite_not, true_or, or_true, true_and, and_true, zn10, zn00, zk_123 hL, a1, zb_Tape_readPlayer_4, b1, zb_Tape_readPlayer_10, hm1]
end
