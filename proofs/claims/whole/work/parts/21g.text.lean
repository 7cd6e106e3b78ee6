/-! TEXT: the reference reads all items. -/
def zodr (n : Nat) (t : zTo) : Prop := t.2.1 ≤ t.2.2.1 ∧ t.2.2.1 ≤ n
/-- a token that is not ahead -/
def zmn (n : Nat) (t t' : zTo) : Prop := t.2.1 ≤ t'.2.1 ∧ zodr n t'
theorem zmn_r {n : Nat} {t : zTo} (h : zodr n t) : zmn n t t := ⟨Nat.le_refl _, h⟩
theorem zmn_t {n : Nat} {t t1 t2 : zTo} (h1 : zmn n t t1) (h2 : zmn n t1 t2) : zmn n t t2 := ⟨Nat.le_trans h1.1 h2.1, h2.2⟩
theorem zmn_n {B : Nat → Int} {n : Nat} {t : zTo} (h : zodr n t) : zmn n t (znx1 B n t) := by
  have h2 := ztk_in (B := B) h.2
  exact ⟨Nat.le_trans h.1 h2.1, h2.2⟩
theorem zrdp_mn {B : Nat → Int} {n : Nat} {T : zTb} {t : zTo} {k : Int} (h : zodr n t) : zmn n t (zrdp B n T t k).2.1 := by
  have h0 := zmn_r h
  have h1 := zmn_n (B := B) h
  have h2 := zmn_t h1 (zmn_n (B := B) h1.2)
  have h3 := zmn_t h2 (zmn_n (B := B) h2.2)
  unfold zrdp
  repeat' split
  all_goals first | exact h0 | exact h1 | exact h2 | exact h3
theorem zrda_mn {X : zX} {B : Nat → Int} {n : Nat} {T : zTb} {t : zTo} (h : zodr n t) : zmn n t (zrda X B n T t).2.1 := by
  have h1 := zmn_n (B := B) h
  have h2 := zmn_t h1 (zmn_n (B := B) h1.2)
  unfold zrda
  repeat' split
  all_goals first | exact h1 | exact h2
theorem zrde_mn {X : zX} {B : Nat → Int} {n : Nat} {T : zTb} {t : zTo} (h : zodr n t) : zmn n t (zrde X B n T t).2.1 := by
  have h1 := zmn_n (B := B) h
  have h2 := zmn_t h1 (zmn_n (B := B) h1.2)
  have h3 := zmn_t h2 (zmn_n (B := B) h2.2)
  have h4 := zmn_t h3 (zmn_n (B := B) h3.2)
  unfold zrde
  repeat' split
  all_goals first | exact h1 | exact h2 | exact h3 | exact h4
theorem zrdo_mn {X : zX} {B : Nat → Int} {n e w : Nat} {T : zTb} {t : zTo} (h : zodr n t) : zmn n t (zrdo X B n e w t T).2.1 := by
  have h0 := zmn_r h
  have h1 := zmn_n (B := B) h
  have h2 := zmn_t h1 (zmn_n (B := B) h1.2)
  unfold zrdo
  repeat' split
  all_goals first | exact h0 | exact h1 | exact h2
theorem zrdl_mn {X : zX} {B : Nat → Int} {n e : Nat} : ∀ (m w : Nat) (t : zTo) (T : zTb), zodr n t → zmn n t (zrdl X B n e m w t T).2.1 := by
  intro m
  induction m with
  | zero => intro w t T h; exact zmn_r h
  | succ m ih =>
    intro w t T h
    have h1 := zrdo_mn (X := X) (B := B) (e := e) (w := w) (T := T) h
    unfold zrdl
    split
    · exact zmn_t h1 (ih _ _ _ h1.2)
    · exact h1
theorem zrdq_mn {X : zX} {B : Nat → Int} {n : Nat} {T : zTb} {t : zTo} (h : zodr n t) : zmn n t (zrdq X B n T t).2.1 := by
  have h1 := zmn_n (B := B) h
  have h2 := zmn_t h1 (zmn_n (B := B) h1.2)
  unfold zrdq
  split
  · exact zmn_t h2 (zrdl_mn _ _ _ _ h2.2)
  · exact h1
theorem zrdi_mn {X : zX} {B : Nat → Int} {n : Nat} {T : zTb} {t : zTo} (h : zodr n t) : zmn n t (zrdi X B n T t).2.1 := by
  unfold zrdi
  by_cases c0 : zkd X B t 7 0 < 0
  · rw [if_pos c0]
    by_cases c1 : zWd X B t 11
    · rw [if_pos c1]; exact zrda_mn h
    · rw [if_neg c1]
      by_cases c2 : zWd X B t 13
      · rw [if_pos c2]; exact zrde_mn h
      · rw [if_neg c2]
        by_cases c3 : zWd X B t 15
        · rw [if_pos c3]; exact zrdq_mn h
        · rw [if_neg c3]; exact zmn_r h
  · rw [if_neg c0]
    exact zrdp_mn h
theorem zrdi_0 {X : zX} {B : Nat → Int} {n : Nat} {T : zTb} {t : zTo} (h : t.1 = 0) : zrdi X B n T t = (0, (t, T)) := by
  have h1 : ¬ t.1 = 1 := by omega
  unfold zrdi
  rw [if_pos (show zkd X B t 7 0 < 0 from Int.not_le.1 (fun hh => h1 (zkd_1 7 0 hh))), if_neg (fun hh => h1 hh.1), if_neg (fun hh => h1 hh.1), if_neg (fun hh => h1 hh.1)]
/-- what is so behind an item, and the rest -/
def zrz (X : zX) (B : Nat → Int) (n m i : Nat) (r : Int × (zTo × zTb)) : Int × zTb := if r.1 = 0 then (-1 - (r.2.1.2.1 : Int), r.2.2) else
      (if r.2.1.1 = 0 then ((i : Int), r.2.2) else
        (if r.2.1.1 = 3 then zrdz X B n m (i + 1) (znx1 B n r.2.1) r.2.2 else (-1 - (r.2.1.2.1 : Int), r.2.2)))
def zMe (I' : Nat → Nat → Int) (q : Int × zTb) (a : Int) : Prop := (0 ≤ q.1 ∧ a = q.1 ∧ I' 135 26 = -1 ∧ zTM I' 136 q.2) ∨ ∃ s : Nat, s ≤ 120 ∧ q.1 = -1 - (s : Int) ∧ I' 135 26 = (s : Int)
section
variable {X : zX} {C : zC} {d n nn : Nat} {L : zLt} {T : zTb} {I : Nat → Nat → Int} {B : Nat → Int} {t : zTo}
theorem zm_its (hL : zLay L) (hC : zXC X) (hB : zBy B n) : ∀ (m i : Nat) (r : Int × (zTo × zTb)) (I : Nat → Nat → Int), i + m = 120 → i ≤ r.2.1.2.1 + 1 → zodr n r.2.1 → zTOK nn r.2.2 → zMo I B n r → ∃ I' a, zgo X (zcal X zP (d + 5)) zc_M_items 20 [some (.inr (.inr (.inl 135))), some (.inl (i : Int))] [] (I, L) = some (some (.inl a), (I', L)) ∧ zMe I' (zrz X B n m i r) a ∧ zMFr I I' := by
  have h120 := hB.1
  have hm1 : ((-1 : Int) < 0) = True := eq_true (by decide)
  have hnt : ∀ q : Nat, ((q : Int) < 0) = False := fun q => eq_false (by omega)
  intro m
  induction m with
  | zero =>
    intro i r I hi hs hod ho h
    obtain ⟨r1, t1, T1⟩ := r
    rcases h with ⟨h1, h2⟩ | ⟨h1, h2⟩
    · have h1 : r1 = 1 := h1
      subst h1
      have h2 : zMd I B n t1 T1 := h2
      have hod : zodr n t1 := hod
      have hs : i ≤ t1.2.1 + 1 := hs
      have ho : zTOK nn T1 := ho
      have u26 : I 135 26 = -1 := h2.2.2.1
      have s23 : I 135 23 = t1.1 := h2.2.2.2.1
      by_cases c0 : t1.1 = 0
      · have c3 : ¬ t1.1 = 3 := by omega
        have e : zrz X B n 0 i (1, (t1, T1)) = ((i : Int), T1) := (if_neg (show ¬ (1 : Int) = 0 by decide)).trans (if_pos c0)
        rw [e]
        refine ⟨I, (i : Int), ?_, Or.inl ⟨by show (0 : Int) ≤ (i : Int); omega, rfl, u26, h2.2.2.2.2.2.2.2.2⟩, zMFr_r⟩
        refine zb_M_items_20.trans ?_
        simp only [if_true, if_false, Option.bind_some, Option.bind, Option.toList, List.cons_append, List.nil_append, zite0, zite1, zite01, znn, ite_not, true_or, or_true, true_and, and_true, zn10, zn00, zk_135 hL, zr_135_0 hL, z6_0 hL, z6_1 hL, z6_2 hL, z6_3 hL, z6_4 hL, u26, hm1, s23, eq_false c3, eq_true c0, zb_M_items_67]
      · by_cases c3 : t1.1 = 3
        · have e : zrz X B n 0 i (1, (t1, T1)) = (-1 - ((znx1 B n t1).2.1 : Int), T1) := (if_neg (show ¬ (1 : Int) = 0 by decide)).trans ((if_neg c0).trans (if_pos c3))
          rw [e]
          obtain ⟨I1, a1, a2, a3⟩ := zMd_next (X := X) (d := d + 3) hL hB h2 (by omega)
          have hst := h2.2.2.2.2.2.2.1.2.2 c3
          have hn := zmn_n (B := B) hod
          have hn1 := hn.2.1
          have hn2 := hn.2.2
          have hz0 : (znx1 B n t1).1 = 0 := by
            show zsa B n (zsk B (n - t1.2.2.1) t1.2.2.1) = 0
            have hz := (zsk_in (B := B) (n - t1.2.2.1) t1.2.2.1).1
            exact if_neg (by omega)
          obtain ⟨I2, b1, b2, b3⟩ := zq_M_item (X := X) (d := d) hL hC hB ho a2
          rw [zrdi_0 hz0] at b2
          have v26 : I2 135 26 = ((znx1 B n t1).2.1 : Int) := by
            rcases b2 with ⟨k, -⟩ | ⟨-, k⟩
            · exact absurd (show (0 : Int) = 1 from k) (by decide)
            · exact k
          refine ⟨I2, ((i + 1 : Nat) : Int), ?_, Or.inr ⟨(znx1 B n t1).2.1, by omega, rfl, v26⟩, zMFr_t a3 b3⟩
          refine zb_M_items_20.trans ?_
          simp only [if_true, if_false, Option.bind_some, Option.bind, Option.toList, List.cons_append, List.nil_append, zite0, zite1, zite01, znn, ite_not, true_or, or_true, true_and, and_true, zn10, zn00, zk_135 hL, zr_135_0 hL, z6_0 hL, z6_1 hL, z6_2 hL, z6_3 hL, z6_4 hL, u26, hm1, s23, eq_true c3, a1, zb_M_items_39, b1, zb_M_items_43, zw32n (show i < 1000000 by omega), zb_M_items_20, v26, hnt, zb_M_items_67]
        · have e : zrz X B n 0 i (1, (t1, T1)) = (-1 - (t1.2.1 : Int), T1) := (if_neg (show ¬ (1 : Int) = 0 by decide)).trans ((if_neg c0).trans (if_neg c3))
          rw [e]
          have hwr := zMd_wrong (X := X) (d := d + 4) hL h2
          have ho1 := hod.1
          have ho2 := hod.2
          refine ⟨_, (i : Int), ?_, Or.inr ⟨t1.2.1, by omega, rfl, zwI_eq⟩, zMFr_26⟩
          refine zb_M_items_20.trans ?_
          simp only [if_true, if_false, Option.bind_some, Option.bind, Option.toList, List.cons_append, List.nil_append, zite0, zite1, zite01, znn, ite_not, true_or, or_true, true_and, and_true, zn10, zn00, zk_135 hL, zr_135_0 hL, z6_0 hL, z6_1 hL, z6_2 hL, z6_3 hL, z6_4 hL, u26, hm1, s23, eq_false c3, eq_false c0, hwr, zb_M_items_67]
    · have h1 : r1 = 0 := h1
      have h2 : I 135 26 = (t1.2.1 : Int) := h2
      have ho1 : t1.2.1 ≤ t1.2.2.1 := hod.1
      have ho2 : t1.2.2.1 ≤ n := hod.2
      have e : zrz X B n 0 i (r1, (t1, T1)) = (-1 - (t1.2.1 : Int), T1) := if_pos h1
      rw [e]
      refine ⟨I, (i : Int), ?_, Or.inr ⟨t1.2.1, by omega, rfl, h2⟩, zMFr_r⟩
      refine zb_M_items_20.trans ?_
      simp only [if_true, if_false, Option.bind_some, Option.bind, Option.toList, List.cons_append, List.nil_append, zite0, zite1, zite01, znn, ite_not, true_or, or_true, true_and, and_true, zn10, zn00, zk_135 hL, zr_135_0 hL, z6_0 hL, z6_1 hL, z6_2 hL, z6_3 hL, z6_4 hL, h2, hnt, zb_M_items_67]
  | succ m ih =>
    intro i r I hi hs hod ho h
    obtain ⟨r1, t1, T1⟩ := r
    rcases h with ⟨h1, h2⟩ | ⟨h1, h2⟩
    · have h1 : r1 = 1 := h1
      subst h1
      have h2 : zMd I B n t1 T1 := h2
      have hod : zodr n t1 := hod
      have hs : i ≤ t1.2.1 + 1 := hs
      have ho : zTOK nn T1 := ho
      have u26 : I 135 26 = -1 := h2.2.2.1
      have s23 : I 135 23 = t1.1 := h2.2.2.2.1
      by_cases c0 : t1.1 = 0
      · have c3 : ¬ t1.1 = 3 := by omega
        have e : zrz X B n (m + 1) i (1, (t1, T1)) = ((i : Int), T1) := (if_neg (show ¬ (1 : Int) = 0 by decide)).trans (if_pos c0)
        rw [e]
        refine ⟨I, (i : Int), ?_, Or.inl ⟨by show (0 : Int) ≤ (i : Int); omega, rfl, u26, h2.2.2.2.2.2.2.2.2⟩, zMFr_r⟩
        refine zb_M_items_20.trans ?_
        simp only [if_true, if_false, Option.bind_some, Option.bind, Option.toList, List.cons_append, List.nil_append, zite0, zite1, zite01, znn, ite_not, true_or, or_true, true_and, and_true, zn10, zn00, zk_135 hL, zr_135_0 hL, z6_0 hL, z6_1 hL, z6_2 hL, z6_3 hL, z6_4 hL, u26, hm1, s23, eq_false c3, eq_true c0, zb_M_items_67]
      · by_cases c3 : t1.1 = 3
        · have e : zrz X B n (m + 1) i (1, (t1, T1)) = zrz X B n m (i + 1) (zrdi X B n T1 (znx1 B n t1)) := (if_neg (show ¬ (1 : Int) = 0 by decide)).trans ((if_neg c0).trans (if_pos c3))
          rw [e]
          obtain ⟨I1, a1, a2, a3⟩ := zMd_next (X := X) (d := d + 3) hL hB h2 (by omega)
          have hst := h2.2.2.2.2.2.2.1.2.2 c3
          have hz : t1.2.2.1 ≤ (znx1 B n t1).2.1 := (ztk_in (B := B) hod.2).1
          have hn := zmn_n (B := B) hod
          have hr := zrdi_mn (X := X) (B := B) (T := T1) hn.2
          have hr1 := hr.1
          obtain ⟨I2, b1, b2, b3⟩ := zq_M_item (X := X) (d := d) hL hC hB ho a2
          obtain ⟨I3, a, d1, d2, d3⟩ := ih (i + 1) (zrdi X B n T1 (znx1 B n t1)) I2 (by omega) (by omega) hr.2 (zrdi_ok ho) b2
          refine ⟨I3, a, ?_, d2, zMFr_t a3 (zMFr_t b3 d3)⟩
          refine zb_M_items_20.trans ?_
          simp only [if_true, if_false, Option.bind_some, Option.bind, Option.toList, List.cons_append, List.nil_append, zite0, zite1, zite01, znn, ite_not, true_or, or_true, true_and, and_true, zn10, zn00, zk_135 hL, zr_135_0 hL, z6_0 hL, z6_1 hL, z6_2 hL, z6_3 hL, z6_4 hL, u26, hm1, s23, eq_true c3, a1, zb_M_items_39, b1, zb_M_items_43, zw32n (show i < 1000000 by omega), d1]
        · have e : zrz X B n (m + 1) i (1, (t1, T1)) = (-1 - (t1.2.1 : Int), T1) := (if_neg (show ¬ (1 : Int) = 0 by decide)).trans ((if_neg c0).trans (if_neg c3))
          rw [e]
          have hwr := zMd_wrong (X := X) (d := d + 4) hL h2
          have ho1 := hod.1
          have ho2 := hod.2
          refine ⟨_, (i : Int), ?_, Or.inr ⟨t1.2.1, by omega, rfl, zwI_eq⟩, zMFr_26⟩
          refine zb_M_items_20.trans ?_
          simp only [if_true, if_false, Option.bind_some, Option.bind, Option.toList, List.cons_append, List.nil_append, zite0, zite1, zite01, znn, ite_not, true_or, or_true, true_and, and_true, zn10, zn00, zk_135 hL, zr_135_0 hL, z6_0 hL, z6_1 hL, z6_2 hL, z6_3 hL, z6_4 hL, u26, hm1, s23, eq_false c3, eq_false c0, hwr, zb_M_items_67]
    · have h1 : r1 = 0 := h1
      have h2 : I 135 26 = (t1.2.1 : Int) := h2
      have ho1 : t1.2.1 ≤ t1.2.2.1 := hod.1
      have ho2 : t1.2.2.1 ≤ n := hod.2
      have e : zrz X B n (m + 1) i (r1, (t1, T1)) = (-1 - (t1.2.1 : Int), T1) := if_pos h1
      rw [e]
      refine ⟨I, (i : Int), ?_, Or.inr ⟨t1.2.1, by omega, rfl, h2⟩, zMFr_r⟩
      refine zb_M_items_20.trans ?_
      simp only [if_true, if_false, Option.bind_some, Option.bind, Option.toList, List.cons_append, List.nil_append, zite0, zite1, zite01, znn, ite_not, true_or, or_true, true_and, and_true, zn10, zn00, zk_135 hL, zr_135_0 hL, z6_0 hL, z6_1 hL, z6_2 hL, z6_3 hL, z6_4 hL, h2, hnt, zb_M_items_67]
theorem zq_M_items (hL : zLay L) (hC : zXC X) (hB : zBy B n) (hb : ∀ j, j < n → I 140 j = B j) (h6 : I 135 6 = (n : Int)) (ho : zTOK nn T) (hT : zTM I 136 T) : ∃ I' a, zcal X zP (d + 6) 227 [.inr (.inr (.inl 135))] (I, L) = some (some (.inl a), (I', L)) ∧ zMe I' (zrdz X B n 120 1 (ztk B n 0) T) a ∧ zMFr I I' := by
  generalize hI1 : zwI (zwI I 135 22 0) 135 26 (-1) = I1
  have r140 : I1 140 = I 140 := by rw [← hI1, zwI_row (by omega), zwI_row (by omega)]
  have hb1 : ∀ j, j < n → I1 140 j = B j := by rw [r140]; exact hb
  obtain ⟨I2, q1, q2, q3, q4, q5, q6, q7⟩ := zq_M_next (X := X) (d := d + 3) (I := I1) (n := n) hL (zBy_cg hb1 hB) (by rw [← hI1, zwI_nej (by omega), zwI_nej (by omega)]; exact h6) (Nat.zero_le n) (by rw [← hI1, zwI_nej (by omega), zwI_eq]; rfl)
  rw [ztk_cg hb1 (Nat.zero_le n)] at q4 q5 q6 q7
  have q0 : I2 140 = I1 140 := q2 140 (by omega)
  have r6 : I2 135 6 = (n : Int) := (q3 6 (by omega)).trans (by rw [← hI1, zwI_nej (by omega), zwI_nej (by omega)]; exact h6)
  have r26 : I2 135 26 = -1 := (q3 26 (by omega)).trans (by rw [← hI1, zwI_eq])
  have hmd : zMd I2 B n (ztk B n 0) T := ⟨by rw [q0]; exact hb1, r6, r26, q4, q5, q6, by rw [q0]; exact q7, (ztk_in (Nat.zero_le n)).2, zTM_row ((q2 136 (by omega)).trans (by rw [← hI1, zwI_row (by omega), zwI_row (by omega)])) hT⟩
  have hf : zMFr I I2 := ⟨fun a ha _ => (q2 a ha).trans (by rw [← hI1, zwI_row ha, zwI_row ha]), fun j hj => (q3 j (by omega)).trans (by rw [← hI1, zwI_nej (by omega), zwI_nej (by omega)])⟩
  have hod : zodr n (ztk B n 0) := (ztk_in (Nat.zero_le n)).2
  obtain ⟨I3, b1, b2, b3⟩ := zq_M_item (X := X) (d := d) hL hC hB ho hmd
  have hr := zrdi_mn (X := X) (B := B) (T := T) hod
  obtain ⟨I4, a, d1, d2, d3⟩ := zm_its (X := X) (d := d) hL hC hB 119 1 (zrdi X B n T (ztk B n 0)) I3 (by omega) (by omega) hr.2 (zrdi_ok ho) b2
  have d1 : zgo X (zcal X zP (d + 5)) zc_M_items 20 [some (.inr (.inr (.inl 135))), some (.inl 1)] [] (I3, L) = _ := d1
  refine ⟨I4, a, ?_, d2, zMFr_t hf (zMFr_t b3 d3)⟩
  refine ((zcal_go zp_M_items rfl).trans zb_M_items_0).trans ?_
  simp only [if_true, if_false, Option.bind_some, Option.bind, Option.toList, List.cons_append, List.nil_append, zite0, zite1, zite01, znn, ite_not, true_or, or_true, true_and, and_true, zn10, zn00, zk_135 hL, zr_135_0 hL, z6_0 hL, z6_1 hL, z6_2 hL, z6_3 hL, z6_4 hL, zw_I, hI1, q1, zb_M_items_14, b1, zb_M_items_18, d1]
end
