/-! THE STATE OF BOTH. (table, (is an image kept, (the image, (the tape's length and bytes, (sheets: bits, size, numbers; findings))))) -/
abbrev zSt : Type := zTb × (Int × (zTb × ((Nat × (Nat → Int)) × ((Nat → Int × (Nat × (Nat → Int))) × (Nat → Int)))))
def zRX (I : Nat → Nat → Int) (S : zSt) : Prop := zTC I 2 S.1 ∧ I 1 3 = S.2.1 ∧ (S.2.1 = 1 → zTC I 29 S.2.2.1) ∧ I 123 1 = (S.2.2.2.1.1 : Int) ∧ (∀ j, j < S.2.2.2.1.1 → I 124 j = S.2.2.2.1.2 j) ∧ (∀ s, s < 4 → I (127 + 2 * s) 0 = (S.2.2.2.2.1 s).1 ∧ I (127 + 2 * s) 1 = ((S.2.2.2.2.1 s).2.1 : Int) ∧ ∀ j, j < (S.2.2.2.2.1 s).2.1 → I (128 + 2 * s) j = (S.2.2.2.2.1 s).2.2 j) ∧ ∀ k, k < 7 → I 126 k = S.2.2.2.2.2 k
def zRM (I : Nat → Nat → Int) (S : zSt) : Prop := zTM I 136 S.1 ∧ I 135 3 = S.2.1 ∧ (S.2.1 = 1 → zTM I 138 S.2.2.1) ∧ I 135 6 = (S.2.2.2.1.1 : Int) ∧ (∀ j, j < S.2.2.2.1.1 → I 140 j = S.2.2.2.1.2 j) ∧ (∀ s, s < 4 → I 147 s = (S.2.2.2.2.1 s).1 ∧ I 148 s = ((S.2.2.2.2.1 s).2.1 : Int) ∧ ∀ j, j < (S.2.2.2.2.1 s).2.1 → I 149 (40 * s + j) = (S.2.2.2.2.1 s).2.2 j) ∧ ∀ k, k < 7 → I 139 k = S.2.2.2.2.2 k
def zSOK (n : Nat) (S : zSt) : Prop := zTOK n S.1 ∧ (S.2.1 = 0 ∨ S.2.1 = 1) ∧ (S.2.1 = 1 → zTOK n S.2.2.1) ∧ S.2.2.2.1.1 ≤ 120 ∧ (∀ j, -128 ≤ S.2.2.2.1.2 j ∧ S.2.2.2.1.2 j ≤ 127) ∧ (∀ s, s < 4 → ((S.2.2.2.2.1 s).1 = 0 ∨ (S.2.2.2.2.1 s).1 = 8 ∨ (S.2.2.2.2.1 s).1 = 16 ∨ (S.2.2.2.2.1 s).1 = 32) ∧ (S.2.2.2.2.1 s).2.1 ≤ 40 ∧ ((S.2.2.2.2.1 s).1 = 0 → (S.2.2.2.2.1 s).2.1 = 0) ∧ ∀ j, zint ((S.2.2.2.2.1 s).2.2 j)) ∧ (∀ k, k < 7 → 0 ≤ S.2.2.2.2.2 k ∧ S.2.2.2.2.2 k ≤ n) ∧ n ≤ 100000
/-- a table comes instead of the one -/
def zS1 (S : zSt) (T : zTb) : zSt := (T, S.2)
/-- a finding more -/
def zSf (S : zSt) (k : Nat) : zSt := (S.1, (S.2.1, (S.2.2.1, (S.2.2.2.1, (S.2.2.2.2.1, fun j => if j = k then S.2.2.2.2.2 j + 1 else S.2.2.2.2.2 j)))))
def zwI (I : Nat → Nat → Int) (a j : Nat) (v : Int) : Nat → Nat → Int := fun a' j' => if a' = a ∧ j' = j then v else I a' j'
theorem zw_I {I : Nat → Nat → Int} {L : zLt} {a j : Nat} {v : Int} : zw (I, L) a j v = (zwI I a j v, L) := rfl
theorem zwI_eq {I : Nat → Nat → Int} {a j : Nat} {v : Int} : zwI I a j v a j = v := by unfold zwI; rw [if_pos ⟨rfl, rfl⟩]
theorem zwI_ne {I : Nat → Nat → Int} {a j a' j' : Nat} {v : Int} (h : a' ≠ a) : zwI I a j v a' j' = I a' j' := by unfold zwI; rw [if_neg (fun hh => h hh.1)]
theorem zwI_nej {I : Nat → Nat → Int} {a j a' j' : Nat} {v : Int} (h : j' ≠ j) : zwI I a j v a' j' = I a' j' := by unfold zwI; rw [if_neg (fun hh => h hh.2)]
theorem zwI_row {I : Nat → Nat → Int} {a j a' : Nat} {v : Int} (h : a' ≠ a) : zwI I a j v a' = I a' := funext fun j' => zwI_ne h
theorem zTOK_up {n m : Nat} {T : zTb} (h : zTOK n T) (hm : n ≤ m) : zTOK m T := by
  obtain ⟨h1, h2, h3, h4, h5, h6, h7, h8, h9⟩ := h
  refine ⟨h1, h2, h3, ⟨by omega, by omega⟩, h5, h6, h7, fun p hp => ?_, h9⟩
  obtain ⟨a, b, c, e⟩ := h8 p hp
  exact ⟨⟨a.1, by omega⟩, b, c, e.1, by omega⟩
theorem zSOK_up {n : Nat} {S : zSt} (h : zSOK n S) (hn : n < 100000) : zSOK (n + 1) S := by
  obtain ⟨h1, h2, h3, h4, h5, h6, h7, h8⟩ := h
  exact ⟨zTOK_up h1 (by omega), h2, fun e => zTOK_up (h3 e) (by omega), h4, h5, h6, fun k hk => ⟨(h7 k hk).1, by have := (h7 k hk).2; omega⟩, by omega⟩
theorem zTC_row {I I' : Nat → Nat → Int} {t : Nat} {T : zTb} (h14 : T.2.1 ≤ 14) (hr : ∀ a, t ≤ a → a < t + 27 → I' a = I a) (h : zTC I t T) : zTC I' t T := by
  obtain ⟨h1, h2, h3, h4, h5, h6, h7, h8, h9⟩ := h
  rw [← hr t (by omega) (by omega)] at h1 h2 h3 h4 h5
  refine ⟨h1, h2, h3, h4, h5, fun i hi => ?_, fun e he => ?_, fun p k hp hk => ?_, fun s hs => ?_⟩
  · rw [hr (t + 5 + i) (by omega) (by omega)]; exact h6 i hi
  · rw [hr (t + 19 + e) (by omega) (by omega)]; exact h7 e he
  · rw [hr (t + 23 + p) (by omega) (by omega)]; exact h8 p k hp hk
  · rw [hr (t + 4) (by omega) (by omega)]; exact h9 s hs
theorem zTM_row {I I' : Nat → Nat → Int} {a : Nat} {T : zTb} (hr : I' a = I a) (h : zTM I a T) : zTM I' a T := by
  unfold zTM at h ⊢
  rw [hr]
  exact h
theorem zRX_row {I I' : Nat → Nat → Int} {n : Nat} {S : zSt} (ho : zSOK n S) (hr : ∀ a, a < 135 → I' a = I a) (h : zRX I S) : zRX I' S := by
  obtain ⟨h1, h2, h3, h4, h5, h6, h7⟩ := h
  refine ⟨zTC_row ho.1.2.2.2.2.1 (fun a _ ha => hr a (by omega)) h1, ?_, fun e => zTC_row (ho.2.2.1 e).2.2.2.2.1 (fun a _ ha => hr a (by omega)) (h3 e), ?_, ?_, ?_, ?_⟩
  · rw [hr 1 (by omega)]; exact h2
  · rw [hr 123 (by omega)]; exact h4
  · rw [hr 124 (by omega)]; exact h5
  · intro s hs
    rw [hr (127 + 2 * s) (by omega), hr (128 + 2 * s) (by omega)]; exact h6 s hs
  · rw [hr 126 (by omega)]; exact h7
theorem zRM_row {I I' : Nat → Nat → Int} {S : zSt} (hr : ∀ a, 135 ≤ a → I' a = I a) (h : zRM I S) : zRM I' S := by
  obtain ⟨h1, h2, h3, h4, h5, h6, h7⟩ := h
  refine ⟨zTM_row (hr 136 (by omega)) h1, ?_, fun e => zTM_row (hr 138 (by omega)) (h3 e), ?_, ?_, ?_, ?_⟩
  · rw [hr 135 (by omega)]; exact h2
  · rw [hr 135 (by omega)]; exact h4
  · rw [hr 140 (by omega)]; exact h5
  · rw [hr 147 (by omega), hr 148 (by omega), hr 149 (by omega)]; exact h6
  · rw [hr 139 (by omega)]; exact h7
/-- the class's half of a call: what it answers, what it leaves -/
def zHX (X : zX) (L : zLt) (d mx : Nat) (args : List zV) (S : zSt) (q : zV × zSt) : Prop := ∀ I, zRX I S → ∃ I', zcal X zP d mx (.inr (.inr (.inl 1)) :: args) (I, L) = some (some q.1, (I', L)) ∧ zRX I' q.2 ∧ ∀ a, 135 ≤ a → I' a = I a
/-- the reference's -/
def zHM (X : zX) (L : zLt) (d mm : Nat) (args : List zV) (S : zSt) (q : zV × zSt) : Prop := ∀ I, zRM I S → ∃ I', zcal X zP d mm (.inr (.inr (.inl 135)) :: args) (I, L) = some (some q.1, (I', L)) ∧ zRM I' q.2 ∧ ∀ a, a < 135 → I' a = I a
theorem zRX_f {I : Nat → Nat → Int} {n k : Nat} {S : zSt} (ho : zSOK n S) (hk : k < 7) (h : zRX I S) : zRX (zwI I 126 k (w32 (I 126 k + 1))) (zSf S k) := by
  obtain ⟨h1, h2, h3, h4, h5, h6, h7⟩ := h
  refine ⟨zTC_row ho.1.2.2.2.2.1 (fun a _ ha => zwI_row (by omega)) h1, ?_, fun e => zTC_row (ho.2.2.1 e).2.2.2.2.1 (fun a _ ha => zwI_row (by omega)) (h3 e), ?_, ?_, ?_, ?_⟩
  · rw [zwI_ne (by omega)]; exact h2
  · rw [zwI_ne (by omega)]; exact h4
  · intro j hj; rw [zwI_ne (by omega)]; exact h5 j hj
  · intro s hs
    rw [zwI_row (by omega), zwI_row (by omega)]; exact h6 s hs
  · intro j hj
    show zwI I 126 k (w32 (I 126 k + 1)) 126 j = if j = k then S.2.2.2.2.2 j + 1 else S.2.2.2.2.2 j
    by_cases e : j = k
    · have := ho.2.2.2.2.2.2.1 k hk
      have := ho.2.2.2.2.2.2.2
      rw [if_pos e, e, zwI_eq, h7 k hk, zw32 (by omega) (by omega)]
    · rw [if_neg e, zwI_nej e]; exact h7 j hj
theorem zRM_f {I : Nat → Nat → Int} {n k : Nat} {S : zSt} (ho : zSOK n S) (hk : k < 7) (h : zRM I S) : zRM (zwI I 139 k (w32 (I 139 k + 1))) (zSf S k) := by
  obtain ⟨h1, h2, h3, h4, h5, h6, h7⟩ := h
  refine ⟨zTM_row (zwI_row (by omega)) h1, ?_, fun e => zTM_row (zwI_row (by omega)) (h3 e), ?_, ?_, ?_, ?_⟩
  · rw [zwI_ne (by omega)]; exact h2
  · rw [zwI_ne (by omega)]; exact h4
  · intro j hj; rw [zwI_ne (by omega)]; exact h5 j hj
  · rw [zwI_row (by omega), zwI_row (by omega), zwI_row (by omega)]; exact h6
  · intro j hj
    show zwI I 139 k (w32 (I 139 k + 1)) 139 j = if j = k then S.2.2.2.2.2 j + 1 else S.2.2.2.2.2 j
    by_cases e : j = k
    · have := ho.2.2.2.2.2.2.1 k hk
      have := ho.2.2.2.2.2.2.2
      rw [if_pos e, e, zwI_eq, h7 k hk, zw32 (by omega) (by omega)]
    · rw [if_neg e, zwI_nej e]; exact h7 j hj
theorem zSOK_f {n k : Nat} {S : zSt} (ho : zSOK n S) (hk : k < 7) (hn : n < 100000) : zSOK (n + 1) (zSf S k) := by
  have h := zSOK_up ho hn
  obtain ⟨h1, h2, h3, h4, h5, h6, h7, h8⟩ := h
  refine ⟨h1, h2, h3, h4, h5, h6, fun j hj => ?_, h8⟩
  have h9 := ho.2.2.2.2.2.2.1 j hj
  show 0 ≤ (if j = k then S.2.2.2.2.2 j + 1 else S.2.2.2.2.2 j) ∧ (if j = k then S.2.2.2.2.2 j + 1 else S.2.2.2.2.2 j) ≤ ((n + 1 : Nat) : Int)
  split <;> omega
/-- the class refuses -/
theorem zX_tell {X : zX} {d : Nat} {I : Nat → Nat → Int} {L : zLt} {n k : Nat} {S : zSt} (hL : zLay L) (ho : zSOK n S) (hk : k < 7) (h : zRX I S) : ∃ I', zcal X zP (d + 1) 120 [.inr (.inr (.inl 1)), .inl (-1000001 - (k : Int))] (I, L) = some (some (.inl (-1000001 - (k : Int))), (I', L)) ∧ zRX I' (zSf S k) ∧ ∀ a, 135 ≤ a → I' a = I a :=
  ⟨_, zq_X_tell hL hk, zRX_f ho hk h, fun a ha => zwI_row (by omega)⟩
theorem zM_finds {X : zX} {d : Nat} {I : Nat → Nat → Int} {L : zLt} {n k : Nat} {S : zSt} (hL : zLay L) (ho : zSOK n S) (hk : k < 7) (h : zRM I S) : ∃ I', zcal X zP (d + 1) 140 [.inr (.inr (.inl 135)), .inl (k : Int)] (I, L) = some (some (.inl (-1000001 - (k : Int))), (I', L)) ∧ zRM I' (zSf S k) ∧ ∀ a, a < 135 → I' a = I a :=
  ⟨_, zq_M_finds hL hk, zRM_f ho hk h, fun a ha => zwI_row (by omega)⟩
