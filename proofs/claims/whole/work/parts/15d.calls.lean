/-! CONTRACTS OF CALLS: sheet, write. -/
theorem zn50 : ((5 : Int) < 0) = False := eq_false (by decide)
theorem znm1 : ((-1 : Int) < 0) = True := eq_true (by decide)
theorem zn0 : ((0 : Int) < 0) = False := eq_false (by decide)
theorem znn0 : ((0 : Nat) < 0) = False := eq_false (by decide)
theorem zn80 : ((8 : Int) = 0) = False := eq_false (by decide)
theorem zn160 : ((16 : Int) = 0) = False := eq_false (by decide)
theorem zn168 : ((16 : Int) = 8) = False := eq_false (by decide)
theorem zn320 : ((32 : Int) = 0) = False := eq_false (by decide)
theorem zn328 : ((32 : Int) = 8) = False := eq_false (by decide)
theorem zn3216 : ((32 : Int) = 16) = False := eq_false (by decide)
/-- a sheet comes instead of the one that there was -/
def zSsh (S : zSt) (s : Nat) (q : Int × (Nat × (Nat → Int))) : zSt := (S.1, (S.2.1, (S.2.2.1, (S.2.2.2.1, (fun k => if k = s then q else S.2.2.2.2.1 k, S.2.2.2.2.2)))))
theorem zRX_sh {I I' : Nat → Nat → Int} {n s : Nat} {S : zSt} {q : Int × (Nat × (Nat → Int))} (ho : zSOK n S) (hs : s < 4) (hr : ∀ a j, a ≠ 127 + 2 * s → a ≠ 128 + 2 * s → I' a j = I a j) (h0 : I' (127 + 2 * s) 0 = q.1) (h1 : I' (127 + 2 * s) 1 = (q.2.1 : Int)) (h2 : ∀ j, j < q.2.1 → I' (128 + 2 * s) j = q.2.2 j) (h : zRX I S) : zRX I' (zSsh S s q) := by
  obtain ⟨r1, r2, r3, r4, r5, r6, r7⟩ := h
  refine ⟨zTC_row ho.1.2.2.2.2.1 (fun a _ ha => funext fun j => hr a j (by omega) (by omega)) r1, (hr _ _ (by omega) (by omega)).trans r2, fun e => zTC_row (ho.2.2.1 e).2.2.2.2.1 (fun a _ ha => funext fun j => hr a j (by omega) (by omega)) (r3 e), (hr _ _ (by omega) (by omega)).trans r4, fun j hj => (hr _ _ (by omega) (by omega)).trans (r5 j hj), fun k hk => ?_, fun k hk => (hr _ _ (by omega) (by omega)).trans (r7 k hk)⟩
  show I' (127 + 2 * k) 0 = (if k = s then q else S.2.2.2.2.1 k).1 ∧ I' (127 + 2 * k) 1 = ((if k = s then q else S.2.2.2.2.1 k).2.1 : Int) ∧ ∀ j, j < (if k = s then q else S.2.2.2.2.1 k).2.1 → I' (128 + 2 * k) j = (if k = s then q else S.2.2.2.2.1 k).2.2 j
  by_cases e : k = s
  · rw [if_pos e, e]; exact ⟨h0, h1, h2⟩
  · rw [if_neg e, hr _ _ (by omega) (by omega), hr _ _ (by omega) (by omega)]
    obtain ⟨a, b, c⟩ := r6 k hk
    exact ⟨a, b, fun j hj => (hr _ _ (by omega) (by omega)).trans (c j hj)⟩
theorem zRM_sh {I I' : Nat → Nat → Int} {n s : Nat} {S : zSt} {q : Int × (Nat × (Nat → Int))} (ho : zSOK n S) (hs : s < 4) (hq : q.2.1 ≤ 40) (hr : ∀ a j, a ≠ 150 → ¬ (a = 147 ∧ j = s) → ¬ (a = 148 ∧ j = s) → ¬ (a = 149 ∧ 40 * s ≤ j ∧ j < 40 * s + 40) → I' a j = I a j) (h0 : I' 147 s = q.1) (h1 : I' 148 s = (q.2.1 : Int)) (h2 : ∀ j, j < q.2.1 → I' 149 (40 * s + j) = q.2.2 j) (h : zRM I S) : zRM I' (zSsh S s q) := by
  obtain ⟨r1, r2, r3, r4, r5, r6, r7⟩ := h
  refine ⟨zTM_row (funext fun j => hr _ _ (by omega) (by omega) (by omega) (by omega)) r1, (hr _ _ (by omega) (by omega) (by omega) (by omega)).trans r2, fun e => zTM_row (funext fun j => hr _ _ (by omega) (by omega) (by omega) (by omega)) (r3 e), (hr _ _ (by omega) (by omega) (by omega) (by omega)).trans r4, fun j hj => (hr _ _ (by omega) (by omega) (by omega) (by omega)).trans (r5 j hj), fun k hk => ?_, fun k hk => (hr _ _ (by omega) (by omega) (by omega) (by omega)).trans (r7 k hk)⟩
  show I' 147 k = (if k = s then q else S.2.2.2.2.1 k).1 ∧ I' 148 k = ((if k = s then q else S.2.2.2.2.1 k).2.1 : Int) ∧ ∀ j, j < (if k = s then q else S.2.2.2.2.1 k).2.1 → I' 149 (40 * k + j) = (if k = s then q else S.2.2.2.2.1 k).2.2 j
  by_cases e : k = s
  · rw [if_pos e, e]; exact ⟨h0, h1, h2⟩
  · rw [if_neg e, hr _ _ (by omega) (by omega) (by omega) (by omega), hr _ _ (by omega) (by omega) (by omega) (by omega)]
    obtain ⟨a, b, c⟩ := r6 k hk
    have h40 := (ho.2.2.2.2.2.1 k hk).2.1
    exact ⟨a, b, fun j hj => (hr _ _ (by omega) (by omega) (by omega) (by omega)).trans (c j hj)⟩
theorem zSOK_sh {n s : Nat} {S : zSt} {q : Int × (Nat × (Nat → Int))} (h1 : q.1 = 0 ∨ q.1 = 8 ∨ q.1 = 16 ∨ q.1 = 32) (h2 : q.2.1 ≤ 40) (h3 : q.1 = 0 → q.2.1 = 0) (h4 : ∀ j, zint (q.2.2 j)) (h : zSOK n S) : zSOK n (zSsh S s q) := by
  obtain ⟨a1, a2, a3, a4, a5, a6, a7⟩ := h
  refine ⟨a1, a2, a3, a4, a5, fun k hk => ?_, a7⟩
  show ((if k = s then q else S.2.2.2.2.1 k).1 = 0 ∨ (if k = s then q else S.2.2.2.2.1 k).1 = 8 ∨ (if k = s then q else S.2.2.2.2.1 k).1 = 16 ∨ (if k = s then q else S.2.2.2.2.1 k).1 = 32) ∧ (if k = s then q else S.2.2.2.2.1 k).2.1 ≤ 40 ∧ ((if k = s then q else S.2.2.2.2.1 k).1 = 0 → (if k = s then q else S.2.2.2.2.1 k).2.1 = 0) ∧ ∀ j, zint ((if k = s then q else S.2.2.2.2.1 k).2.2 j)
  by_cases e : k = s
  · rw [if_pos e]; exact ⟨h1, h2, h3, h4⟩
  · rw [if_neg e]; exact a6 k hk
theorem zsh {L : zLt} {s : Nat} (hL : zLay L) (h : s < 4) : L.1 125 s = 127 + 2 * s ∧ L.2.1 (127 + 2 * s) = (1, (5, 0)) ∧ L.1 (127 + 2 * s) 2 = 128 + 2 * s ∧ L.2.1 (128 + 2 * s) = (2, (40, 0)) := by
  rcases (show s = 0 ∨ s = 1 ∨ s = 2 ∨ s = 3 by omega) with rfl | rfl | rfl | rfl
  · exact ⟨zr_125_0 hL, zk_127 hL, zr_127_2 hL, zk_128 hL⟩
  · exact ⟨zr_125_1 hL, zk_129 hL, zr_129_2 hL, zk_130 hL⟩
  · exact ⟨zr_125_2 hL, zk_131 hL, zr_131_2 hL, zk_132 hL⟩
  · exact ⟨zr_125_3 hL, zk_133 hL, zr_133_2 hL, zk_134 hL⟩
theorem zc125 {L : zLt} (hL : zLay L) {i : Nat} (h : i < 4) : (((L.2.1 125).1 = 5 ∨ (L.2.1 125).1 = 6) ∧ 0 ≤ (i : Int) ∧ (i : Int) < ((L.2.1 125).2.1 : Int)) = True := by
  rw [zk_125 hL]
  exact eq_true ⟨Or.inl rfl, by omega, by show (i : Int) < ((4 : Nat) : Int); omega⟩
theorem zc147 {L : zLt} (hL : zLay L) {i : Nat} (h : i < 4) : ((L.2.1 147).1 = 2 ∧ 0 ≤ (i : Int) ∧ (i : Int) < ((L.2.1 147).2.1 : Int)) = True := by
  rw [zk_147 hL]
  exact eq_true ⟨rfl, by omega, by show (i : Int) < ((4 : Nat) : Int); omega⟩
theorem zc148 {L : zLt} (hL : zLay L) {i : Nat} (h : i < 4) : ((L.2.1 148).1 = 2 ∧ 0 ≤ (i : Int) ∧ (i : Int) < ((L.2.1 148).2.1 : Int)) = True := by
  rw [zk_148 hL]
  exact eq_true ⟨rfl, by omega, by show (i : Int) < ((4 : Nat) : Int); omega⟩
theorem zc149 {L : zLt} (hL : zLay L) {i : Nat} (h : i < 160) : ((L.2.1 149).1 = 2 ∧ 0 ≤ (i : Int) ∧ (i : Int) < ((L.2.1 149).2.1 : Int)) = True := by
  rw [zk_149 hL]
  exact eq_true ⟨rfl, by omega, by show (i : Int) < ((160 : Nat) : Int); omega⟩
theorem zcsh {L : zLt} {s i : Nat} (hL : zLay L) (hs : s < 4) (h : i < 40) : ((L.2.1 (128 + 2 * s)).1 = 2 ∧ 0 ≤ (i : Int) ∧ (i : Int) < ((L.2.1 (128 + 2 * s)).2.1 : Int)) = True := by
  rw [(zsh hL hs).2.2.2]
  exact eq_true ⟨rfl, by omega, by show (i : Int) < ((40 : Nat) : Int); omega⟩
section
variable {X : zX} {C : zC} {d n : Nat} {L : zLt} {S : zSt}
def zbits (b : Int) : Prop := b = 0 ∨ b = 8 ∨ b = 16 ∨ b = 32
theorem zq_X_isBits1 {σ : zMem} {b : Int} (h : zbits b) : zcal X zP (d + 1) 133 [.inl b] σ = some (some (.inl 1), σ) := by
  refine ((zcal_go zp_X_isBits rfl).trans zb_X_isBits_0).trans ?_
  rcases h with rfl | rfl | rfl | rfl <;> rfl
theorem zq_X_isBits0 {σ : zMem} {b : Int} (h : ¬ zbits b) : zcal X zP (d + 1) 133 [.inl b] σ = some (some (.inl 0), σ) := by
  refine ((zcal_go zp_X_isBits rfl).trans zb_X_isBits_0).trans ?_
  rw [if_neg (fun e => h (Or.inl e)), if_neg (fun e => h (Or.inr (Or.inl e))), if_neg (fun e => h (Or.inr (Or.inr (Or.inl e)))), if_neg (fun e => h (Or.inr (Or.inr (Or.inr e))))]
theorem zx_lay_l (hL : zLay L) {s : Nat} (hs : s < 4) {b z : Int} : ∀ (m i : Nat) (I : Nat → Nat → Int), i + m = 40 → ∃ I', zgo X C zc_Sheet_lay 12 [some (.inr (.inr (.inl (127 + 2 * s)))), some (.inl b), some (.inl z), some (.inl (i : Int))] [] (I, L) = some (none, (I', L)) ∧ (∀ a j, (a ≠ 128 + 2 * s ∨ j < i) → I' a j = I a j) ∧ ∀ j, i ≤ j → j < 40 → I' (128 + 2 * s) j = 0 := by
  intro m
  induction m with
  | zero =>
    intro i I hi
    refine ⟨I, ?_, fun a j _ => rfl, fun e h1 h2 => absurd h1 (by omega)⟩
    rw [zb_Sheet_lay_12, if_neg (by omega)]
  | succ m ih =>
    intro i I hi
    obtain ⟨l1, l2, l3, l4⟩ := zsh hL hs
    obtain ⟨I', q1, q2, q3⟩ := ih (i + 1) (zwI I (128 + 2 * s) i 0) (by omega)
    rw [zb_Sheet_lay_12, if_pos (by omega)]
    simp only [if_true, if_false, Option.bind_some, Option.bind, Option.toList, List.cons_append, List.nil_append, zite0, zite1, zite01, znn, ite_not, true_or, or_true, true_and, and_true, zn10, zn00, l2, l3, zcsh hL hs (show i < 40 by omega), Int.toNat_natCast, zw_I]
    rw [zw32n (by omega)]
    refine ⟨I', q1, fun a j h => (q2 a j (by omega)).trans ?_, fun j h1 h2 => ?_⟩
    · rw [zwI_if, if_neg (by omega)]
    · by_cases he : j = i
      · rw [he, q2 _ _ (by omega), zwI_eq]
      · exact q3 j (by omega) h2
theorem zx_lay (hL : zLay L) {I : Nat → Nat → Int} {s : Nat} (hs : s < 4) {b z : Int} : ∃ I', zcal X zP (d + 1) 31 [.inr (.inr (.inl (127 + 2 * s))), .inl b, .inl z] (I, L) = some (none, (I', L)) ∧ I' (127 + 2 * s) 0 = b ∧ I' (127 + 2 * s) 1 = z ∧ (∀ j, j < 40 → I' (128 + 2 * s) j = 0) ∧ ∀ a j, a ≠ 127 + 2 * s → a ≠ 128 + 2 * s → I' a j = I a j := by
  obtain ⟨l1, l2, l3, l4⟩ := zsh hL hs
  obtain ⟨I', q1, q2, q3⟩ := zx_lay_l (X := X) (C := zcal X zP d) hL hs (b := b) (z := z) 40 0 (zwI (zwI I (127 + 2 * s) 0 b) (127 + 2 * s) 1 z) rfl
  refine ⟨I', ?_, ?_, ?_, fun j hj => q3 j (by omega) hj, fun a j h1 h2 => ?_⟩
  · refine ((zcal_go zp_Sheet_lay rfl).trans zb_Sheet_lay_0).trans ?_
    simp only [if_true, if_false, Option.bind_some, Option.bind, Option.toList, List.cons_append, List.nil_append, zite0, zite1, zite01, znn, ite_not, true_or, or_true, true_and, and_true, zn10, zn00, l2, zw_I]
    exact q1
  · rw [q2 _ _ (by omega), zwI_nej (by omega), zwI_eq]
  · rw [q2 _ _ (by omega), zwI_eq]
  · rw [q2 _ _ (by omega), zwI_ne h1, zwI_ne h1]
def zr_sheet (S : zSt) (s b m : Int) : zV × zSt := if (0 ≤ s ∧ s ≤ 3) ∧ (b = 0 ∨ b = 8 ∨ b = 16 ∨ b = 32) then (if m < 0 then (.inl (-1000007), zSf S 6) else if 40 < m then (.inl (-1000001), zSf S 0) else (.inl (if b = 0 then 0 else m), zSsh S s.toNat (b, ((if b = 0 then 0 else m).toNat, fun _ => 0)))) else (.inl (-1000001), zSf S 0)
theorem zx_sheet (hL : zLay L) (ho : zSOK n S) {s b m : Int} : zHX X L (d + 3) 110 [.inl s, .inl b, .inl m] S (zr_sheet S s b m) := by
  intro I hr
  have hb := zq_X_isSheet (X := X) (d := d) (σ := (I, L)) (v := s)
  unfold zr_sheet
  by_cases hs : 0 ≤ s ∧ s ≤ 3
  · rw [if_pos hs] at hb
    by_cases hz : b = 0 ∨ b = 8 ∨ b = 16 ∨ b = 32
    · have hc := zq_X_isBits1 (X := X) (d := d + 1) (σ := (I, L)) (b := b) hz
      rw [if_pos ⟨hs, hz⟩]
      by_cases h0 : m < 0
      · rw [if_pos h0]
        obtain ⟨I', h1, h2, h3⟩ := zX_tellc (X := X) (d := d + 1) (k := 6) (c := -1000007) hL ho (by omega) (by omega) hr
        refine ⟨I', ?_, h2, h3⟩
        refine ((zcal_go zp_X_sheet rfl).trans zb_X_sheet_0).trans ?_
        simp only [if_true, if_false, Option.bind_some, Option.bind, Option.toList, List.cons_append, List.nil_append, zite0, zite1, zite01, znn, ite_not, true_or, or_true, true_and, and_true, zn10, zn00, zk_1 hL, zr_1_0 hL, zk_2 hL, hb, hc, zb_X_sheet_4, zb_X_sheet_11, zb_X_sheet_20, zb_X_sheet_31, zb_X_sheet_44, zb_X_sheet_64, eq_true h0, h1]
      · rw [if_neg h0]
        by_cases h40 : 40 < m
        · rw [if_pos h40]
          obtain ⟨I', h1, h2, h3⟩ := zX_tellc (X := X) (d := d + 1) (k := 0) (c := -1000001) hL ho (by omega) (by omega) hr
          refine ⟨I', ?_, h2, h3⟩
          refine ((zcal_go zp_X_sheet rfl).trans zb_X_sheet_0).trans ?_
          simp only [if_true, if_false, Option.bind_some, Option.bind, Option.toList, List.cons_append, List.nil_append, zite0, zite1, zite01, znn, ite_not, true_or, or_true, true_and, and_true, zn10, zn00, zk_1 hL, zr_1_0 hL, zk_2 hL, hb, hc, zb_X_sheet_4, zb_X_sheet_11, zb_X_sheet_20, zb_X_sheet_31, zb_X_sheet_44, zb_X_sheet_64, eq_false h0, eq_true h40, h1]
        · rw [if_neg h40]
          obtain ⟨k, rfl⟩ := Int.eq_ofNat_of_zero_le hs.1
          obtain ⟨l1, l2, l3, l4⟩ := zsh hL (show k < 4 by omega)
          obtain ⟨I', q1, q2, q3, q4, q5⟩ := zx_lay (X := X) (d := d + 1) hL (I := I) (show k < 4 by omega) (b := b) (z := if b = 0 then 0 else m)
          have hnn : (0 : Int) ≤ (if b = 0 then 0 else m) := by split <;> omega
          refine ⟨I', ?_, zRX_sh ho (by omega) q5 q2 (q3.trans (by show _ = ((Int.toNat (if b = 0 then 0 else m) : Nat) : Int); omega)) (fun j hj => q4 j ?_) hr, fun a ha => funext fun j => q5 a j (by omega) (by omega)⟩
          · refine ((zcal_go zp_X_sheet rfl).trans zb_X_sheet_0).trans ?_
            by_cases b0 : b = 0
            · rw [if_pos b0] at q1 q3 ⊢
              simp only [if_true, if_false, Option.bind_some, Option.bind, Option.toList, List.cons_append, List.nil_append, zite0, zite1, zite01, znn, ite_not, true_or, or_true, true_and, and_true, zn10, zn00, zk_1 hL, zr_1_0 hL, zk_2 hL, hb, hc, zb_X_sheet_4, zb_X_sheet_11, zb_X_sheet_20, zb_X_sheet_31, zb_X_sheet_44, zb_X_sheet_64, eq_false h0, eq_false h40, eq_true b0, zr_1_9 hL, zc125 hL (show k < 4 by omega), Int.toNat_natCast, l1, l2, q1, q3]
            · rw [if_neg b0] at q1 q3 ⊢
              simp only [if_true, if_false, Option.bind_some, Option.bind, Option.toList, List.cons_append, List.nil_append, zite0, zite1, zite01, znn, ite_not, true_or, or_true, true_and, and_true, zn10, zn00, zk_1 hL, zr_1_0 hL, zk_2 hL, hb, hc, zb_X_sheet_4, zb_X_sheet_11, zb_X_sheet_20, zb_X_sheet_31, zb_X_sheet_44, zb_X_sheet_64, eq_false h0, eq_false h40, eq_false b0, zr_1_9 hL, zc125 hL (show k < 4 by omega), Int.toNat_natCast, l1, l2, q1, q3]
          · have hj : j < Int.toNat (if b = 0 then 0 else m) := hj
            split at hj <;> omega
    · have hc := zq_X_isBits0 (X := X) (d := d + 1) (σ := (I, L)) (b := b) hz
      rw [if_neg (fun h => hz h.2)]
      obtain ⟨I', h1, h2, h3⟩ := zX_tellc (X := X) (d := d + 1) (k := 0) (c := -1000001) hL ho (by omega) (by omega) hr
      refine ⟨I', ?_, h2, h3⟩
      refine ((zcal_go zp_X_sheet rfl).trans zb_X_sheet_0).trans ?_
      simp only [if_true, if_false, Option.bind_some, Option.bind, Option.toList, List.cons_append, List.nil_append, zite0, zite1, zite01, znn, ite_not, true_or, or_true, true_and, and_true, zn10, zn00, zk_1 hL, zr_1_0 hL, zk_2 hL, hb, hc, zb_X_sheet_4, zb_X_sheet_11, zb_X_sheet_20, zb_X_sheet_31, zb_X_sheet_44, zb_X_sheet_64, h1]
  · rw [if_neg hs] at hb
    rw [if_neg (fun h => hs h.1)]
    obtain ⟨I', h1, h2, h3⟩ := zX_tellc (X := X) (d := d + 1) (k := 0) (c := -1000001) hL ho (by omega) (by omega) hr
    refine ⟨I', ?_, h2, h3⟩
    refine ((zcal_go zp_X_sheet rfl).trans zb_X_sheet_0).trans ?_
    simp only [if_true, if_false, Option.bind_some, Option.bind, Option.toList, List.cons_append, List.nil_append, zite0, zite1, zite01, znn, ite_not, true_or, or_true, true_and, and_true, zn10, zn00, zk_1 hL, zr_1_0 hL, zk_2 hL, hb, zb_X_sheet_4, zb_X_sheet_11, zb_X_sheet_20, zb_X_sheet_31, zb_X_sheet_44, zb_X_sheet_64, h1]
theorem zm_sheet_l (hL : zLay L) {s : Nat} (hs : s < 4) {b z y : Int} : ∀ (m i : Nat) (I : Nat → Nat → Int), i + m = 40 → I 148 s = y → ∃ I', zgo X C zc_M_sheet 83 [some (.inr (.inr (.inl 135))), some (.inl (s : Int)), some (.inl b), some (.inl z), some (.inl (i : Int))] [] (I, L) = some (some (.inl y), (I', L)) ∧ (∀ a j, (a ≠ 149 ∨ j < 40 * s + i ∨ 40 * s + 40 ≤ j) → I' a j = I a j) ∧ ∀ j, i ≤ j → j < 40 → I' 149 (40 * s + j) = 0 := by
  intro m
  induction m with
  | zero =>
    intro i I hi hy
    refine ⟨I, ?_, fun a j _ => rfl, fun e h1 h2 => absurd h1 (by omega)⟩
    rw [zb_M_sheet_83, if_neg (by omega)]
    simp only [if_true, if_false, Option.bind_some, Option.bind, Option.toList, List.cons_append, List.nil_append, zite0, zite1, zite01, znn, ite_not, true_or, or_true, true_and, and_true, zn10, zn00, zk_135 hL, zr_135_0 hL, z6_0 hL, z6_1 hL, z6_2 hL, z6_3 hL, z6_4 hL, zr_135_28 hL, zc148 hL hs, Int.toNat_natCast, hy]
  | succ m ih =>
    intro i I hi hy
    obtain ⟨I', q1, q2, q3⟩ := ih (i + 1) (zwI I 149 (40 * s + i) 0) (by omega) ((zwI_ne (by omega)).trans hy)
    have e : w32 ((w32 (40 * (s : Int))) + (i : Int)) = ((40 * s + i : Nat) : Int) := by unfold w32; omega
    rw [zb_M_sheet_83, if_pos (by omega)]
    simp only [if_true, if_false, Option.bind_some, Option.bind, Option.toList, List.cons_append, List.nil_append, zite0, zite1, zite01, znn, ite_not, true_or, or_true, true_and, and_true, zn10, zn00, zk_135 hL, zr_135_0 hL, z6_0 hL, z6_1 hL, z6_2 hL, z6_3 hL, z6_4 hL, zr_135_29 hL, e, zc149 hL (show 40 * s + i < 160 by omega), Int.toNat_natCast, zw_I]
    rw [zw32n (by omega)]
    refine ⟨I', q1, fun a j h => (q2 a j (by omega)).trans ?_, fun j h1 h2 => ?_⟩
    · rw [zwI_if, if_neg (by omega)]
    · by_cases he : j = i
      · rw [he, q2 _ _ (by omega), zwI_eq]
      · exact q3 j (by omega) h2
theorem zm_sheet (hL : zLay L) (ho : zSOK n S) {s b m : Int} : zHM X L (d + 3) 233 [.inl s, .inl b, .inl m] S (zr_sheet S s b m) := by
  intro I hr
  have hb := zq_M_isSheet (X := X) (d := d) (σ := (I, L)) (v := s)
  unfold zr_sheet
  by_cases hs : 0 ≤ s ∧ s ≤ 3
  · rw [if_pos hs] at hb
    by_cases hz : b = 0 ∨ b = 8 ∨ b = 16 ∨ b = 32
    · rw [if_pos ⟨hs, hz⟩]
      by_cases h0 : m < 0
      · rw [if_pos h0]
        obtain ⟨I', h1, h2, h3⟩ := zM_findsc (X := X) (d := d + 1) (k := 6) (c := -1000007) (k' := 6) hL ho (by omega) (by omega) (by omega) hr
        refine ⟨I', ?_, h2, h3⟩
        refine ((zcal_go zp_M_sheet rfl).trans zb_M_sheet_0).trans ?_
        rcases hz with rfl | rfl | rfl | rfl <;> simp only [if_true, if_false, Option.bind_some, Option.bind, Option.toList, List.cons_append, List.nil_append, zite0, zite1, zite01, znn, ite_not, true_or, or_true, true_and, and_true, zn10, zn00, zk_135 hL, zr_135_0 hL, z6_0 hL, z6_1 hL, z6_2 hL, z6_3 hL, z6_4 hL, hb, zb_M_sheet_4, zb_M_sheet_34, zb_M_sheet_45, zb_M_sheet_57, zn80, zn160, zn168, zn320, zn328, zn3216, eq_true h0, h1]
      · rw [if_neg h0]
        by_cases h40 : 40 < m
        · rw [if_pos h40]
          obtain ⟨I', h1, h2, h3⟩ := zM_findsc (X := X) (d := d + 1) (k := 0) (c := -1000001) (k' := 0) hL ho (by omega) (by omega) (by omega) hr
          refine ⟨I', ?_, h2, h3⟩
          refine ((zcal_go zp_M_sheet rfl).trans zb_M_sheet_0).trans ?_
          rcases hz with rfl | rfl | rfl | rfl <;> simp only [if_true, if_false, Option.bind_some, Option.bind, Option.toList, List.cons_append, List.nil_append, zite0, zite1, zite01, znn, ite_not, true_or, or_true, true_and, and_true, zn10, zn00, zk_135 hL, zr_135_0 hL, z6_0 hL, z6_1 hL, z6_2 hL, z6_3 hL, z6_4 hL, hb, zb_M_sheet_4, zb_M_sheet_34, zb_M_sheet_45, zb_M_sheet_57, zn80, zn160, zn168, zn320, zn328, zn3216, eq_false h0, eq_true h40, h1]
        · rw [if_neg h40]
          obtain ⟨k, rfl⟩ := Int.eq_ofNat_of_zero_le hs.1
          rw [Int.toNat_natCast]
          obtain ⟨I', q1, q2, q3⟩ := zm_sheet_l (X := X) (C := zcal X zP (d + 2)) hL (show k < 4 by omega) (b := b) (z := m) (y := if b = 0 then 0 else m) 40 0 (zwI (zwI I 147 k b) 148 k (if b = 0 then 0 else m)) rfl zwI_eq
          have hnn : (0 : Int) ≤ (if b = 0 then 0 else m) := by split <;> omega
          have hn40 : (if b = 0 then 0 else m) ≤ (40 : Int) := by split <;> omega
          refine ⟨I', ?_, zRM_sh ho (show k < 4 by omega) (by show Int.toNat (if b = 0 then 0 else m) ≤ 40; omega) (fun a j _ h1 h2 h3 => (q2 a j (by omega)).trans ?_) ?_ ?_ (fun j hj => ?_) hr, fun a ha => funext fun j => (q2 a j (by omega)).trans ?_⟩
          · refine ((zcal_go zp_M_sheet rfl).trans zb_M_sheet_0).trans ?_
            rcases hz with rfl | rfl | rfl | rfl
            · rw [if_pos rfl] at q1 ⊢
              simp only [if_true, if_false, Option.bind_some, Option.bind, Option.toList, List.cons_append, List.nil_append, zite0, zite1, zite01, znn, ite_not, true_or, or_true, true_and, and_true, zn10, zn00, zk_135 hL, zr_135_0 hL, z6_0 hL, z6_1 hL, z6_2 hL, z6_3 hL, z6_4 hL, hb, zb_M_sheet_4, zb_M_sheet_34, zb_M_sheet_45, zb_M_sheet_57, eq_false h0, eq_false h40, zr_135_27 hL, zc147 hL (show k < 4 by omega), zr_135_28 hL, zc148 hL (show k < 4 by omega), Int.toNat_natCast, zw_I]
              exact q1
            · rw [if_neg (by decide)] at q1 ⊢
              simp only [if_true, if_false, Option.bind_some, Option.bind, Option.toList, List.cons_append, List.nil_append, zite0, zite1, zite01, znn, ite_not, true_or, or_true, true_and, and_true, zn10, zn00, zk_135 hL, zr_135_0 hL, z6_0 hL, z6_1 hL, z6_2 hL, z6_3 hL, z6_4 hL, hb, zb_M_sheet_4, zb_M_sheet_34, zb_M_sheet_45, zb_M_sheet_57, zn80, eq_false h0, eq_false h40, zr_135_27 hL, zc147 hL (show k < 4 by omega), zr_135_28 hL, zc148 hL (show k < 4 by omega), Int.toNat_natCast, zw_I]
              exact q1
            · rw [if_neg (by decide)] at q1 ⊢
              simp only [if_true, if_false, Option.bind_some, Option.bind, Option.toList, List.cons_append, List.nil_append, zite0, zite1, zite01, znn, ite_not, true_or, or_true, true_and, and_true, zn10, zn00, zk_135 hL, zr_135_0 hL, z6_0 hL, z6_1 hL, z6_2 hL, z6_3 hL, z6_4 hL, hb, zb_M_sheet_4, zb_M_sheet_34, zb_M_sheet_45, zb_M_sheet_57, zn160, zn168, eq_false h0, eq_false h40, zr_135_27 hL, zc147 hL (show k < 4 by omega), zr_135_28 hL, zc148 hL (show k < 4 by omega), Int.toNat_natCast, zw_I]
              exact q1
            · rw [if_neg (by decide)] at q1 ⊢
              simp only [if_true, if_false, Option.bind_some, Option.bind, Option.toList, List.cons_append, List.nil_append, zite0, zite1, zite01, znn, ite_not, true_or, or_true, true_and, and_true, zn10, zn00, zk_135 hL, zr_135_0 hL, z6_0 hL, z6_1 hL, z6_2 hL, z6_3 hL, z6_4 hL, hb, zb_M_sheet_4, zb_M_sheet_34, zb_M_sheet_45, zb_M_sheet_57, zn320, zn328, zn3216, eq_false h0, eq_false h40, zr_135_27 hL, zc147 hL (show k < 4 by omega), zr_135_28 hL, zc148 hL (show k < 4 by omega), Int.toNat_natCast, zw_I]
              exact q1
          · rw [zwI_if, if_neg h2, zwI_if, if_neg h1]
          · rw [q2 _ _ (by omega), zwI_ne (by omega), zwI_eq]
          · rw [q2 _ _ (by omega), zwI_eq]
            show _ = ((Int.toNat (if b = 0 then 0 else m) : Nat) : Int)
            omega
          · have hj : j < Int.toNat (if b = 0 then 0 else m) := hj
            exact q3 j (by omega) (by omega)
          · rw [zwI_ne (by omega), zwI_ne (by omega)]
    · rw [if_neg (fun h => hz h.2)]
      obtain ⟨I', h1, h2, h3⟩ := zM_findsc (X := X) (d := d + 1) (k := 0) (c := -1000001) (k' := 0) hL ho (by omega) (by omega) (by omega) hr
      refine ⟨I', ?_, h2, h3⟩
      refine ((zcal_go zp_M_sheet rfl).trans zb_M_sheet_0).trans ?_
      simp only [if_true, if_false, Option.bind_some, Option.bind, Option.toList, List.cons_append, List.nil_append, zite0, zite1, zite01, znn, ite_not, true_or, or_true, true_and, and_true, zn10, zn00, zk_135 hL, zr_135_0 hL, z6_0 hL, z6_1 hL, z6_2 hL, z6_3 hL, z6_4 hL, hb, zb_M_sheet_4, zb_M_sheet_34, zb_M_sheet_45, zb_M_sheet_57, eq_false (fun e => hz (Or.inl e)), eq_false (fun e => hz (Or.inr (Or.inl e))), eq_false (fun e => hz (Or.inr (Or.inr (Or.inl e)))), eq_false (fun e => hz (Or.inr (Or.inr (Or.inr e)))), h1]
  · rw [if_neg hs] at hb
    rw [if_neg (fun h => hs h.1)]
    obtain ⟨I', h1, h2, h3⟩ := zM_findsc (X := X) (d := d + 1) (k := 0) (c := -1000001) (k' := 0) hL ho (by omega) (by omega) (by omega) hr
    refine ⟨I', ?_, h2, h3⟩
    refine ((zcal_go zp_M_sheet rfl).trans zb_M_sheet_0).trans ?_
    simp only [if_true, if_false, Option.bind_some, Option.bind, Option.toList, List.cons_append, List.nil_append, zite0, zite1, zite01, znn, ite_not, true_or, or_true, true_and, and_true, zn10, zn00, zk_135 hL, zr_135_0 hL, z6_0 hL, z6_1 hL, z6_2 hL, z6_3 hL, z6_4 hL, hb, zb_M_sheet_4, zb_M_sheet_34, zb_M_sheet_45, zb_M_sheet_57, h1]
theorem zo_sheet (ho : zSOK n S) (hn : n < 100000) {s b m : Int} : zSOK (n + 1) (zr_sheet S s b m).2 := by
  unfold zr_sheet
  split
  · next h =>
    split
    · exact zSOK_f ho (by omega) hn
    · split
      · exact zSOK_f ho (by omega) hn
      · refine zSOK_sh h.2 ?_ (fun e => ?_) (fun j => ⟨by show (-2147483648 : Int) ≤ 0; omega, by show (0 : Int) < 2147483648; omega⟩) (zSOK_up ho hn)
        · show Int.toNat (if b = 0 then 0 else m) ≤ 40
          split <;> omega
        · show Int.toNat (if b = 0 then 0 else m) = 0
          rw [if_pos e]; rfl
  · exact zSOK_f ho (by omega) hn
theorem zA40 (hL : zLay L) : zA_40 X L := fun n a1 a2 a3 _ _ _ S ho hn => zCI (zr_sheet S a1 a2 a3) (by unfold zr_sheet; repeat' (first | exact ⟨_, rfl⟩ | refine zif1 ?_ ?_)) (zx_sheet (d := 37) hL ho) (zm_sheet (d := 37) hL ho) (zo_sheet ho hn)
/-- write -/
def zcutb (b v : Int) : Int := if b = 8 then w8 v else if b = 16 then w16 v else v
def zr_write (S : zSt) (s i v : Int) : zV × zSt := if 0 ≤ s ∧ s ≤ 3 then (if (S.2.2.2.2.1 s.toNat).1 = 0 then (.inl (-1000006), zSf S 5) else if 0 ≤ i ∧ i ≤ ((S.2.2.2.2.1 s.toNat).2.1 : Int) - 1 then (.inl 1, zSsh S s.toNat ((S.2.2.2.2.1 s.toNat).1, ((S.2.2.2.2.1 s.toNat).2.1, fun j => if j = i.toNat then zcutb (S.2.2.2.2.1 s.toNat).1 v else (S.2.2.2.2.1 s.toNat).2.2 j))) else (.inl (-1000001), zSf S 0)) else (.inl (-1000001), zSf S 0)
theorem zx_put (hL : zLay L) {I : Nat → Nat → Int} {s i : Nat} (hs : s < 4) (hi : i < 40) {v : Int} : zcal X zP (d + 1) 32 [.inr (.inr (.inl (127 + 2 * s))), .inl (i : Int), .inl v] (I, L) = some (none, (zwI I (128 + 2 * s) i (zcutb (I (127 + 2 * s) 0) v), L)) := by
  obtain ⟨l1, l2, l3, l4⟩ := zsh hL hs
  refine ((zcal_go zp_Sheet_put rfl).trans zb_Sheet_put_0).trans ?_
  simp only [if_true, if_false, Option.bind_some, Option.bind, Option.toList, List.cons_append, List.nil_append, zite0, zite1, zite01, znn, ite_not, true_or, or_true, true_and, and_true, zn10, zn00, l2, l3, zcsh hL hs hi, Int.toNat_natCast, zw_I]
  unfold zcutb
  split
  · rfl
  · split <;> rfl
theorem zx_write (hL : zLay L) (ho : zSOK n S) {s i v : Int} : zHX X L (d + 3) 111 [.inl s, .inl i, .inl v] S (zr_write S s i v) := by
  intro I hr
  have hb := zq_X_isSheet (X := X) (d := d) (σ := (I, L)) (v := s)
  unfold zr_write
  by_cases hs : 0 ≤ s ∧ s ≤ 3
  · rw [if_pos hs] at hb ⊢
    obtain ⟨k, rfl⟩ := Int.eq_ofNat_of_zero_le hs.1
    rw [Int.toNat_natCast]
    obtain ⟨l1, l2, l3, l4⟩ := zsh hL (show k < 4 by omega)
    obtain ⟨r1, r2, r3⟩ := hr.2.2.2.2.2.1 k (by omega)
    have h40 := (ho.2.2.2.2.2.1 k (by omega)).2.1
    by_cases h0 : (S.2.2.2.2.1 k).1 = 0
    · rw [if_pos h0]
      obtain ⟨I', h1, h2, h3⟩ := zX_tellc (X := X) (d := d + 1) (k := 5) (c := -1000006) hL ho (by omega) (by omega) hr
      refine ⟨I', ?_, h2, h3⟩
      refine ((zcal_go zp_X_write rfl).trans zb_X_write_0).trans ?_
      simp only [if_true, if_false, Option.bind_some, Option.bind, Option.toList, List.cons_append, List.nil_append, zite0, zite1, zite01, znn, ite_not, true_or, or_true, true_and, and_true, zn10, zn00, zk_1 hL, zr_1_0 hL, zk_2 hL, hb, zb_X_write_4, zb_X_write_13, zb_X_write_33, zb_X_write_50, zb_X_write_59, zb_X_write_71, zr_1_9 hL, zc125 hL (show k < 4 by omega), Int.toNat_natCast, l1, l2, r1, eq_true h0, h1]
    · rw [if_neg h0]
      have e : w32 (I (127 + 2 * k) 1 - 1) = ((S.2.2.2.2.1 k).2.1 : Int) - 1 := by rw [r2]; unfold w32; omega
      have hc := zq_X_within (X := X) (d := d + 1) (σ := (I, L)) (v := i) (a := 0) (b := ((S.2.2.2.2.1 k).2.1 : Int) - 1)
      by_cases hi : 0 ≤ i ∧ i ≤ ((S.2.2.2.2.1 k).2.1 : Int) - 1
      · rw [if_pos hi] at hc ⊢
        obtain ⟨j, rfl⟩ := Int.eq_ofNat_of_zero_le hi.1
        rw [Int.toNat_natCast]
        have hq := zx_put (X := X) (d := d + 1) hL (I := I) (show k < 4 by omega) (show j < 40 by omega) (v := v)
        refine ⟨zwI I (128 + 2 * k) j (zcutb (I (127 + 2 * k) 0) v), ?_, zRX_sh ho (show k < 4 by omega) (fun a q h1 h2 => zwI_ne h2) ((zwI_ne (by omega)).trans r1) ((zwI_ne (by omega)).trans r2) (fun q hq => ?_) hr, fun a ha => zwI_row (by omega)⟩
        · refine ((zcal_go zp_X_write rfl).trans zb_X_write_0).trans ?_
          simp only [if_true, if_false, Option.bind_some, Option.bind, Option.toList, List.cons_append, List.nil_append, zite0, zite1, zite01, znn, ite_not, true_or, or_true, true_and, and_true, zn10, zn00, zk_1 hL, zr_1_0 hL, zk_2 hL, hb, zb_X_write_4, zb_X_write_13, zb_X_write_33, zb_X_write_50, zb_X_write_59, zb_X_write_71, zr_1_9 hL, zc125 hL (show k < 4 by omega), Int.toNat_natCast, l1, l2, r1, eq_false h0, e, hc, hq]
          try rfl
        · rw [zwI_if]
          show _ = if q = j then zcutb (S.2.2.2.2.1 k).1 v else (S.2.2.2.2.1 k).2.2 q
          by_cases c : q = j
          · rw [if_pos ⟨rfl, c⟩, if_pos c, r1]
          · rw [if_neg (fun h => c h.2), if_neg c]; exact r3 q hq
      · rw [if_neg hi] at hc ⊢
        obtain ⟨I', h1, h2, h3⟩ := zX_tellc (X := X) (d := d + 1) (k := 0) (c := -1000001) hL ho (by omega) (by omega) hr
        refine ⟨I', ?_, h2, h3⟩
        refine ((zcal_go zp_X_write rfl).trans zb_X_write_0).trans ?_
        simp only [if_true, if_false, Option.bind_some, Option.bind, Option.toList, List.cons_append, List.nil_append, zite0, zite1, zite01, znn, ite_not, true_or, or_true, true_and, and_true, zn10, zn00, zk_1 hL, zr_1_0 hL, zk_2 hL, hb, zb_X_write_4, zb_X_write_13, zb_X_write_33, zb_X_write_50, zb_X_write_59, zb_X_write_71, zr_1_9 hL, zc125 hL (show k < 4 by omega), Int.toNat_natCast, l1, l2, r1, eq_false h0, e, hc, h1]
  · rw [if_neg hs] at hb ⊢
    obtain ⟨I', h1, h2, h3⟩ := zX_tellc (X := X) (d := d + 1) (k := 0) (c := -1000001) hL ho (by omega) (by omega) hr
    refine ⟨I', ?_, h2, h3⟩
    refine ((zcal_go zp_X_write rfl).trans zb_X_write_0).trans ?_
    simp only [if_true, if_false, Option.bind_some, Option.bind, Option.toList, List.cons_append, List.nil_append, zite0, zite1, zite01, znn, ite_not, true_or, or_true, true_and, and_true, zn10, zn00, zk_1 hL, zr_1_0 hL, zk_2 hL, hb, zb_X_write_4, zb_X_write_13, zb_X_write_33, zb_X_write_50, zb_X_write_59, zb_X_write_71, h1]
theorem zq_M_whyNone {I : Nat → Nat → Int} (hL : zLay L) (hr : zRM I S) {s : Int} : zcal X zP (d + 3) 234 [.inr (.inr (.inl 135)), .inl s] (I, L) = some (some (.inl (if 0 ≤ s ∧ s ≤ 3 then (if (S.2.2.2.2.1 s.toNat).1 = 0 then 5 else -1) else 0)), (I, L)) := by
  have hb := zq_M_isSheet (X := X) (d := d) (σ := (I, L)) (v := s)
  by_cases hs : 0 ≤ s ∧ s ≤ 3
  · rw [if_pos hs] at hb ⊢
    obtain ⟨k, rfl⟩ := Int.eq_ofNat_of_zero_le hs.1
    obtain ⟨r1, -⟩ := hr.2.2.2.2.2.1 k (by omega)
    refine ((zcal_go zp_M_whyNone rfl).trans zb_M_whyNone_0).trans ?_
    simp only [if_true, if_false, Option.bind_some, Option.bind, Option.toList, List.cons_append, List.nil_append, zite0, zite1, zite01, znn, ite_not, true_or, or_true, true_and, and_true, zn10, zn00, zk_135 hL, zr_135_0 hL, z6_0 hL, z6_1 hL, z6_2 hL, z6_3 hL, z6_4 hL, hb, zb_M_whyNone_4, zr_135_27 hL, zc147 hL (show k < 4 by omega), Int.toNat_natCast, r1]
    split <;> rfl
  · rw [if_neg hs] at hb ⊢
    refine ((zcal_go zp_M_whyNone rfl).trans zb_M_whyNone_0).trans ?_
    simp only [if_true, if_false, Option.bind_some, Option.bind, Option.toList, List.cons_append, List.nil_append, zite0, zite1, zite01, znn, ite_not, true_or, or_true, true_and, and_true, zn10, zn00, zk_135 hL, zr_135_0 hL, z6_0 hL, z6_1 hL, z6_2 hL, z6_3 hL, z6_4 hL, hb, zb_M_whyNone_4]
theorem zm_write (hL : zLay L) (ho : zSOK n S) {s i v : Int} : zHM X L (d + 4) 235 [.inl s, .inl i, .inl v] S (zr_write S s i v) := by
  intro I hr
  have hb := zq_M_whyNone (X := X) (d := d) hL hr (s := s)
  unfold zr_write
  by_cases hs : 0 ≤ s ∧ s ≤ 3
  · rw [if_pos hs] at hb ⊢
    obtain ⟨k, rfl⟩ := Int.eq_ofNat_of_zero_le hs.1
    rw [Int.toNat_natCast] at hb ⊢
    obtain ⟨r1, r2, r3⟩ := hr.2.2.2.2.2.1 k (by omega)
    have h40 := (ho.2.2.2.2.2.1 k (by omega)).2.1
    by_cases h0 : (S.2.2.2.2.1 k).1 = 0
    · rw [if_pos h0] at hb ⊢
      obtain ⟨I', h1, h2, h3⟩ := zM_findsc (X := X) (d := d + 2) (k := 5) (c := -1000006) (k' := 5) hL ho (by omega) (by omega) (by omega) hr
      refine ⟨I', ?_, h2, h3⟩
      refine ((zcal_go zp_M_write rfl).trans zb_M_write_0).trans ?_
      simp only [if_true, if_false, Option.bind_some, Option.bind, Option.toList, List.cons_append, List.nil_append, zite0, zite1, zite01, znn, ite_not, true_or, or_true, true_and, and_true, zn10, zn00, zk_135 hL, zr_135_0 hL, z6_0 hL, z6_1 hL, z6_2 hL, z6_3 hL, z6_4 hL, hb, zb_M_write_5, zb_M_write_27, zb_M_write_49, zn50, h1]
    · rw [if_neg h0] at hb ⊢
      have e : w32 (I 148 k - 1) = ((S.2.2.2.2.1 k).2.1 : Int) - 1 := by rw [r2]; unfold w32; omega
      have hc := zq_M_in (X := X) (d := d + 2) (σ := (I, L)) (v := i) (a := 0) (b := ((S.2.2.2.2.1 k).2.1 : Int) - 1)
      by_cases hi : 0 ≤ i ∧ i ≤ ((S.2.2.2.2.1 k).2.1 : Int) - 1
      · rw [if_pos hi] at hc ⊢
        obtain ⟨j, rfl⟩ := Int.eq_ofNat_of_zero_le hi.1
        rw [Int.toNat_natCast]
        have e2 : w32 ((w32 (40 * (k : Int))) + (j : Int)) = ((40 * k + j : Nat) : Int) := by unfold w32; omega
        refine ⟨zwI I 149 (40 * k + j) (zcutb (S.2.2.2.2.1 k).1 v), ?_, zRM_sh ho (show k < 4 by omega) h40 (fun a q _ h1 h2 h3 => ?_) ((zwI_ne (by omega)).trans r1) ((zwI_ne (by omega)).trans r2) (fun q hq => ?_) hr, fun a ha => zwI_row (by omega)⟩
        · refine ((zcal_go zp_M_write rfl).trans zb_M_write_0).trans ?_
          simp only [if_true, if_false, Option.bind_some, Option.bind, Option.toList, List.cons_append, List.nil_append, zite0, zite1, zite01, znn, ite_not, true_or, or_true, true_and, and_true, zn10, zn00, zk_135 hL, zr_135_0 hL, z6_0 hL, z6_1 hL, z6_2 hL, z6_3 hL, z6_4 hL, hb, zb_M_write_5, zb_M_write_27, zb_M_write_49, znm1, zr_135_27 hL, zc147 hL (show k < 4 by omega), zr_135_28 hL, zc148 hL (show k < 4 by omega), zr_135_29 hL, e2, zc149 hL (show 40 * k + j < 160 by omega), Int.toNat_natCast, r1, e, hc, zw_I]
          unfold zcutb
          split
          · rfl
          · split <;> rfl
        · rw [zwI_if, if_neg (by omega)]
        · rw [zwI_if]
          show _ = if q = j then zcutb (S.2.2.2.2.1 k).1 v else (S.2.2.2.2.1 k).2.2 q
          by_cases c : q = j
          · rw [if_pos ⟨rfl, by omega⟩, if_pos c]
          · rw [if_neg (fun h => c (by omega)), if_neg c]; exact r3 q hq
      · rw [if_neg hi] at hc ⊢
        obtain ⟨I', h1, h2, h3⟩ := zM_findsc (X := X) (d := d + 2) (k := 0) (c := -1000001) (k' := 0) hL ho (by omega) (by omega) (by omega) hr
        refine ⟨I', ?_, h2, h3⟩
        refine ((zcal_go zp_M_write rfl).trans zb_M_write_0).trans ?_
        simp only [if_true, if_false, Option.bind_some, Option.bind, Option.toList, List.cons_append, List.nil_append, zite0, zite1, zite01, znn, ite_not, true_or, or_true, true_and, and_true, zn10, zn00, zk_135 hL, zr_135_0 hL, z6_0 hL, z6_1 hL, z6_2 hL, z6_3 hL, z6_4 hL, hb, zb_M_write_5, zb_M_write_27, zb_M_write_49, znm1, zn0, znn0, zr_135_28 hL, zc148 hL (show k < 4 by omega), Int.toNat_natCast, e, hc, h1]
  · rw [if_neg hs] at hb ⊢
    obtain ⟨I', h1, h2, h3⟩ := zM_findsc (X := X) (d := d + 2) (k := 0) (c := -1000001) (k' := 0) hL ho (by omega) (by omega) (by omega) hr
    refine ⟨I', ?_, h2, h3⟩
    refine ((zcal_go zp_M_write rfl).trans zb_M_write_0).trans ?_
    simp only [if_true, if_false, Option.bind_some, Option.bind, Option.toList, List.cons_append, List.nil_append, zite0, zite1, zite01, znn, ite_not, true_or, or_true, true_and, and_true, zn10, zn00, zk_135 hL, zr_135_0 hL, z6_0 hL, z6_1 hL, z6_2 hL, z6_3 hL, z6_4 hL, hb, zb_M_write_5, zb_M_write_27, zb_M_write_49, zn0, h1]
theorem zcutb_int {b v : Int} (hv : zint v) : zint (zcutb b v) := by
  unfold zcutb
  have := hv.1
  have := hv.2
  split
  · unfold w8 zint; omega
  · split
    · unfold w16 zint; omega
    · exact hv
theorem zo_write (ho : zSOK n S) (hn : n < 100000) {s i v : Int} (hv : zint v) : zSOK (n + 1) (zr_write S s i v).2 := by
  unfold zr_write
  split
  · next h =>
    split
    · exact zSOK_f ho (by omega) hn
    · split
      · obtain ⟨k, rfl⟩ := Int.eq_ofNat_of_zero_le h.1
        rw [Int.toNat_natCast]
        obtain ⟨b1, b2, b3, b4⟩ := ho.2.2.2.2.2.1 k (by omega)
        refine zSOK_sh b1 b2 b3 (fun j => ?_) (zSOK_up ho hn)
        show zint (if j = i.toNat then zcutb (S.2.2.2.2.1 k).1 v else (S.2.2.2.2.1 k).2.2 j)
        split
        · exact zcutb_int hv
        · exact b4 j
      · exact zSOK_f ho (by omega) hn
  · exact zSOK_f ho (by omega) hn
theorem zA41 (hL : zLay L) : zA_41 X L := fun n a1 a2 a3 _ _ h3 S ho hn => zCI (zr_write S a1 a2 a3) (by unfold zr_write; repeat' (first | exact ⟨_, rfl⟩ | refine zif1 ?_ ?_)) (zx_write (d := 37) hL ho) (zm_write (d := 36) hL ho) (zo_write ho hn h3)
end
