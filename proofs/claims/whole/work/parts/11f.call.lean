/-! CALLS, HALF BY HALF: the first ones. -/
def zkeepX (I I' : Nat → Nat → Int) : Prop := I' 1 3 = I 1 3 ∧ (∀ a, 29 ≤ a → a < 56 → I' a = I a) ∧ I' 123 1 = I 123 1 ∧ I' 124 = I 124 ∧ I' 126 = I 126 ∧ ∀ a, 127 ≤ a → a < 135 → I' a = I a
def zkeepM (I I' : Nat → Nat → Int) : Prop := I' 135 3 = I 135 3 ∧ I' 135 6 = I 135 6 ∧ I' 138 = I 138 ∧ I' 139 = I 139 ∧ I' 140 = I 140 ∧ I' 147 = I 147 ∧ I' 148 = I 148 ∧ I' 149 = I 149
theorem zRX_T {I I' : Nat → Nat → Int} {n : Nat} {S : zSt} {T : zTb} (ho : zSOK n S) (hk : zkeepX I I') (hT : zTC I' 2 T) (h : zRX I S) : zRX I' (zS1 S T) := by
  obtain ⟨h1, h2, h3, h4, h5, h6, h7⟩ := h
  obtain ⟨k1, k2, k3, k4, k5, k6⟩ := hk
  refine ⟨hT, k1.trans h2, fun e => zTC_row (ho.2.2.1 e).2.2.2.2.1 (fun a h1 h2 => k2 a h1 (by omega)) (h3 e), k3.trans h4, ?_, ?_, ?_⟩
  · rw [k4]; exact h5
  · intro s hs
    rw [k6 (127 + 2 * s) (by omega) (by omega), k6 (128 + 2 * s) (by omega) (by omega)]; exact h6 s hs
  · rw [k5]; exact h7
theorem zRM_T {I I' : Nat → Nat → Int} {S : zSt} {T : zTb} (hk : zkeepM I I') (hT : zTM I' 136 T) (h : zRM I S) : zRM I' (zS1 S T) := by
  obtain ⟨h1, h2, h3, h4, h5, h6, h7⟩ := h
  obtain ⟨k1, k2, k3, k4, k5, k6, k7, k8⟩ := hk
  refine ⟨hT, k1.trans h2, fun e => zTM_row k3 (h3 e), k2.trans h4, ?_, ?_, ?_⟩
  · rw [k5]; exact h5
  · rw [k6, k7, k8]; exact h6
  · rw [k4]; exact h7
theorem zkeepX_2 {I : Nat → Nat → Int} {a j : Nat} {v : Int} (h : 2 ≤ a ∧ a < 29) : zkeepX I (zwI I a j v) :=
  ⟨zwI_ne (by omega), fun b _ _ => zwI_row (by omega), zwI_ne (by omega), zwI_row (by omega), zwI_row (by omega), fun b _ _ => zwI_row (by omega)⟩
theorem zkeepM_136 {I : Nat → Nat → Int} {j : Nat} {v : Int} : zkeepM I (zwI I 136 j v) :=
  ⟨zwI_ne (by omega), zwI_ne (by omega), zwI_row (by omega), zwI_row (by omega), zwI_row (by omega), zwI_row (by omega), zwI_row (by omega), zwI_row (by omega)⟩
/-- a number of a table is told anew -/
def zTset (T : zTb) (j : Nat) (v : Int) : zTb := (fun i => if i = j then v else T.1 i, T.2)
/-- where the class keeps a table's numbers 0, 2, 3, 4 -/
theorem zTC_set {I : Nat → Nat → Int} {t j k : Nat} {v : Int} {T : zTb} (hj : (j = 0 ∧ k = 0) ∨ (j = 2 ∧ k = 1) ∨ (j = 3 ∧ k = 4) ∨ (j = 4 ∧ k = 3)) (h : zTC I t T) : zTC (zwI I t k v) t (zTset T j v) := by
  obtain ⟨h1, h2, h3, h4, h5, h6, h7, h8, h9⟩ := h
  have hn : ∀ i, i = 0 ∨ i = 1 ∨ i = 3 ∨ i = 4 → ∀ w, ((w = 0 ∧ i = 0) ∨ (w = 2 ∧ i = 1) ∨ (w = 3 ∧ i = 4) ∨ (w = 4 ∧ i = 3)) → I t i = T.1 w → zwI I t k v t i = (zTset T j v).1 w := by
    intro i hi w hw he
    show _ = if w = j then v else T.1 w
    by_cases e : i = k
    · rw [e, zwI_eq, if_pos (by omega)]
    · rw [zwI_nej e, if_neg (by omega), he]
  have hg : ∀ w, 47 ≤ w → (zTset T j v).1 w = T.1 w := by
    intro w hw
    show (if w = j then v else T.1 w) = _
    rw [if_neg (by omega)]
  refine ⟨hn 0 (by omega) 0 (by omega) h1, hn 1 (by omega) 2 (by omega) h2, ?_, hn 3 (by omega) 4 (by omega) h4, hn 4 (by omega) 3 (by omega) h5, fun i hi => ?_, fun e he => ?_, fun p q hp hq => ?_, fun s hs => ?_⟩
  · rw [zwI_nej (by omega)]; exact h3
  · rw [zwI_row (by omega)]; exact h6 i hi
  · rw [zwI_row (by omega), hg _ (by omega), hg _ (by omega)]; exact h7 e he
  · rw [zwI_row (by omega), hg _ (by omega)]; exact h8 p q hp hq
  · rw [zwI_row (by omega), hg _ (by omega)]; exact h9 s hs
/-- where the reference does -/
theorem zTM_set {I : Nat → Nat → Int} {a j : Nat} {v : Int} {T : zTb} (hj : j = 0 ∨ (2 ≤ j ∧ j ≤ 4) ∨ (47 ≤ j ∧ j < 81)) (h14 : T.2.1 ≤ 14) (h : zTM I a T) : zTM (zwI I a j v) a (zTset T j v) := by
  obtain ⟨h1, h2, h3⟩ := h
  refine ⟨fun i hi => ?_, ?_, fun i hi => ?_⟩
  · show _ = if i = j then v else T.1 i
    by_cases e : i = j
    · rw [e, zwI_eq, if_pos rfl]
    · rw [zwI_nej e, if_neg e]; exact h1 i hi
  · rw [zwI_nej (by omega)]; exact h2
  · have : i < T.2.1 := hi
    rw [zwI_nej (by omega), zwI_nej (by omega), zwI_nej (by omega)]; exact h3 i hi
theorem zX_tellc {X : zX} {d : Nat} {I : Nat → Nat → Int} {L : zLt} {n k : Nat} {c : Int} {S : zSt} (hL : zLay L) (ho : zSOK n S) (hk : k < 7) (hc : c = -1000001 - (k : Int)) (h : zRX I S) : ∃ I', zcal X zP (d + 1) 120 [.inr (.inr (.inl 1)), .inl c] (I, L) = some (some (.inl c), (I', L)) ∧ zRX I' (zSf S k) ∧ ∀ a, 135 ≤ a → I' a = I a := by
  subst hc
  exact zX_tell hL ho hk h
theorem zM_findsc {X : zX} {d : Nat} {I : Nat → Nat → Int} {L : zLt} {n k : Nat} {c k' : Int} {S : zSt} (hL : zLay L) (ho : zSOK n S) (hk : k < 7) (hc : c = -1000001 - (k : Int)) (hk' : k' = (k : Int)) (h : zRM I S) : ∃ I', zcal X zP (d + 1) 140 [.inr (.inr (.inl 135)), .inl k'] (I, L) = some (some (.inl c), (I', L)) ∧ zRM I' (zSf S k) ∧ ∀ a, a < 135 → I' a = I a := by
  subst hc hk'
  exact zM_finds hL ho hk h
section
variable {X : zX} {d n : Nat} {L : zLt} {S : zSt}
def zr_pea (S : zSt) (p : Int) : zV × zSt := if -1 ≤ p ∧ p ≤ S.1.1 0 - 1 then (.inl (S.1.1 2), zS1 S (zTset S.1 2 p)) else (.inl (-1000001), zSf S 0)
theorem zx_pea (hL : zLay L) (ho : zSOK n S) {p : Int} : zHX X L (d + 4) 71 [.inl p] S (zr_pea S p) := by
  intro I hr
  have hb := zq_X_isPlaceOrHand (X := X) (d := d) (v := p) hL hr.1 ho.1
  unfold zr_pea
  by_cases hp : -1 ≤ p ∧ p ≤ S.1.1 0 - 1
  · rw [if_pos hp] at hb ⊢
    refine ⟨zwI I 2 1 p, ?_, zRX_T ho (zkeepX_2 (by omega)) (zTC_set (by omega) hr.1) hr, fun a ha => zwI_row (by omega)⟩
    have e : I 2 1 = S.1.1 2 := hr.1.2.1
    refine ((zcal_go zp_X_pea rfl).trans zb_X_pea_0).trans ?_
    simp only [if_true, if_false, Option.bind_some, Option.bind, Option.toList, List.cons_append, List.nil_append, zite0, zite1, zite01, znn, ite_not, true_or, or_true, true_and, and_true, zk_1 hL, hb, zb_X_pea_5, zr_1_0 hL, zk_2 hL, e, zw_I]
    rfl
  · rw [if_neg hp] at hb ⊢
    obtain ⟨I', h1, h2, h3⟩ := zX_tellc (X := X) (d := d + 2) (k := 0) (c := -1000001) hL ho (by omega) (by omega) hr
    refine ⟨I', ?_, h2, h3⟩
    refine ((zcal_go zp_X_pea rfl).trans zb_X_pea_0).trans ?_
    simp only [if_true, if_false, Option.bind_some, Option.bind, Option.toList, List.cons_append, List.nil_append, zite0, zite1, zite01, znn, ite_not, true_or, or_true, true_and, and_true, zk_1 hL, hb, zb_X_pea_5, h1, zb_X_pea_14]
end
