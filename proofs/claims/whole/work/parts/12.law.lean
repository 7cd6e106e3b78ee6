/-! THE LAW'S LOOP, out of a contract for each call: written by program (wip/whole/mklaw.py). -/
def zCallI (X : zX) (L : zLt) (n mx mm : Nat) (args : List zV) : Prop := ∀ S, zSOK n S → n < 100000 → ∃ z S', zHX X L 40 mx args S (.inl z, S') ∧ zHM X L 40 mm args S (.inl z, S') ∧ zSOK (n + 1) S'
def zCallL (X : zX) (L : zLt) (n mx mm : Nat) (args : List zV) : Prop := ∀ S, zSOK n S → n < 100000 → ∃ z S', zHX X L 40 mx args S (.inr (.inl z), S') ∧ zHM X L 40 mm args S (.inr (.inl z), S') ∧ zSOK (n + 1) S'
theorem zcmp_eq {x : Int} : zcmp x x = 0 := by
  unfold zcmp
  rw [if_neg (by omega), if_pos rfl]
def zA_0 (X : zX) (L : zLt) : Prop := ∀ (n : Nat) (a1 : Int), zint a1 → zCallI X L n 70 152 [.inl a1]
def zA_1 (X : zX) (L : zLt) : Prop := ∀ (n : Nat) (a1 : Int), zint a1 → zCallI X L n 71 153 [.inl a1]
def zA_2 (X : zX) (L : zLt) : Prop := ∀ (n : Nat) (a1 a2 a3 : Int), zint a1 → zint a2 → zint a3 → zCallI X L n 72 155 [.inl a1, .inl a2, .inl a3]
def zA_3 (X : zX) (L : zLt) : Prop := ∀ (n : Nat) (a1 a2 : Int), zint a1 → zint a2 → zCallI X L n 73 156 [.inl a1, .inl a2]
def zA_4 (X : zX) (L : zLt) : Prop := ∀ (n : Nat) (a1 a2 : Int), zint a1 → zint a2 → zCallI X L n 74 157 [.inl a1, .inl a2]
def zA_5 (X : zX) (L : zLt) : Prop := ∀ (n : Nat), zCallI X L n 75 158 []
def zA_6 (X : zX) (L : zLt) : Prop := ∀ (n : Nat) (a1 : Int), zint a1 → zCallI X L n 76 160 [.inl a1]
def zA_7 (X : zX) (L : zLt) : Prop := ∀ (n : Nat) (a1 a2 : Int), zint a1 → zint a2 → zCallI X L n 77 161 [.inl a1, .inl a2]
def zA_8 (X : zX) (L : zLt) : Prop := ∀ (n : Nat), zCallI X L n 78 162 []
def zA_9 (X : zX) (L : zLt) : Prop := ∀ (n : Nat) (a1 a2 a3 : Int), zint a1 → zint a2 → zint a3 → zCallI X L n 79 168 [.inl a1, .inl a2, .inl a3]
def zA_10 (X : zX) (L : zLt) : Prop := ∀ (n : Nat) (a1 a2 a3 : Int), zint a1 → zint a2 → zint a3 → zCallL X L n 80 169 [.inl a1, .inl a2, .inl a3]
def zA_11 (X : zX) (L : zLt) : Prop := ∀ (n : Nat) (a1 : Int), zint a1 → zCallI X L n 81 171 [.inl a1]
def zA_12 (X : zX) (L : zLt) : Prop := ∀ (n : Nat) (a1 : Int), zint a1 → zCallL X L n 82 174 [.inl a1]
def zA_13 (X : zX) (L : zLt) : Prop := ∀ (n : Nat) (a1 : Int), zint a1 → zCallI X L n 83 175 [.inl a1]
def zA_14 (X : zX) (L : zLt) : Prop := ∀ (n : Nat) (a1 a2 : Int), zint a1 → zint a2 → zCallI X L n 84 176 [.inl a1, .inl a2]
def zA_15 (X : zX) (L : zLt) : Prop := ∀ (n : Nat) (a1 : Int), zint a1 → zCallI X L n 85 177 [.inl a1]
def zA_16 (X : zX) (L : zLt) : Prop := ∀ (n : Nat) (a1 : Int), zint a1 → zCallI X L n 86 178 [.inl a1]
def zA_17 (X : zX) (L : zLt) : Prop := ∀ (n : Nat) (a1 : Int), zint a1 → zCallI X L n 87 180 [.inl a1]
def zA_18 (X : zX) (L : zLt) : Prop := ∀ (n : Nat) (a1 a2 : Int), zint a1 → zint a2 → zCallI X L n 88 181 [.inl a1, .inl a2]
def zA_19 (X : zX) (L : zLt) : Prop := ∀ (n : Nat) (a1 a2 a3 : Int), zint a1 → zint a2 → zint a3 → zCallL X L n 89 186 [.inl a1, .inl a2, .inl a3]
def zA_20 (X : zX) (L : zLt) : Prop := ∀ (n : Nat) (a1 a2 a3 a4 : Int), zint a1 → zint a2 → zint a3 → zint a4 → zCallI X L n 90 187 [.inl a1, .inl a2, .inl a3, .inl a4]
def zA_21 (X : zX) (L : zLt) : Prop := ∀ (n : Nat) (a1 : Int), zint a1 → zCallI X L n 91 190 [.inl a1]
def zA_22 (X : zX) (L : zLt) : Prop := ∀ (n : Nat) (a1 a2 : Int), zint a1 → zint a2 → zCallI X L n 92 191 [.inl a1, .inl a2]
def zA_23 (X : zX) (L : zLt) : Prop := ∀ (n : Nat), zCallI X L n 93 193 []
def zA_24 (X : zX) (L : zLt) : Prop := ∀ (n : Nat) (a1 : Int), zint a1 → zCallI X L n 94 194 [.inl a1]
def zA_25 (X : zX) (L : zLt) : Prop := ∀ (n : Nat) (a1 a2 a3 : Int), zint a1 → zint a2 → zint a3 → zCallI X L n 95 198 [.inl a1, .inl a2, .inl a3]
def zA_26 (X : zX) (L : zLt) : Prop := ∀ (n : Nat) (a1 a2 : Int), zint a1 → zint a2 → zCallI X L n 96 199 [.inl a1, .inl a2]
def zA_27 (X : zX) (L : zLt) : Prop := ∀ (n : Nat) (a1 a2 : Int), zint a1 → zint a2 → zCallI X L n 97 201 [.inl a1, .inl a2]
def zA_28 (X : zX) (L : zLt) : Prop := ∀ (n : Nat) (a1 a2 : Int), zint a1 → zint a2 → zCallI X L n 98 202 [.inl a1, .inl a2]
def zA_29 (X : zX) (L : zLt) : Prop := ∀ (n : Nat) (a1 a2 : Int), zint a1 → zint a2 → zCallI X L n 99 205 [.inl a1, .inl a2]
def zA_30 (X : zX) (L : zLt) : Prop := ∀ (n : Nat) (a1 a2 : Int), zint a1 → zint a2 → zCallI X L n 100 206 [.inl a1, .inl a2]
def zA_31 (X : zX) (L : zLt) : Prop := ∀ (n : Nat) (a1 : Int), zint a1 → zCallI X L n 101 207 [.inl a1]
def zA_32 (X : zX) (L : zLt) : Prop := ∀ (n : Nat) (a1 : Int), zint a1 → zCallI X L n 102 208 [.inl a1]
def zA_33 (X : zX) (L : zLt) : Prop := ∀ (n : Nat) (a1 : Int), zint a1 → zCallI X L n 103 210 [.inl a1]
def zA_34 (X : zX) (L : zLt) : Prop := ∀ (n : Nat) (a1 : Int), zint a1 → zCallI X L n 104 211 [.inl a1]
def zA_35 (X : zX) (L : zLt) : Prop := ∀ (n : Nat) (a1 a2 : Int), zint a1 → zint a2 → zCallI X L n 105 212 [.inl a1, .inl a2]
def zA_36 (X : zX) (L : zLt) : Prop := ∀ (n : Nat), zCallI X L n 106 213 []
def zA_37 (X : zX) (L : zLt) : Prop := ∀ (n : Nat), zCallI X L n 107 228 []
def zA_38 (X : zX) (L : zLt) : Prop := ∀ (n : Nat) (a1 a2 : Int), zint a1 → zint a2 → zCallI X L n 108 229 [.inl a1, .inl a2]
def zA_39 (X : zX) (L : zLt) : Prop := ∀ (n : Nat) (a1 a2 : Int), zint a1 → zint a2 → zCallI X L n 109 231 [.inl a1, .inl a2]
def zA_40 (X : zX) (L : zLt) : Prop := ∀ (n : Nat) (a1 a2 a3 : Int), zint a1 → zint a2 → zint a3 → zCallI X L n 110 233 [.inl a1, .inl a2, .inl a3]
def zA_41 (X : zX) (L : zLt) : Prop := ∀ (n : Nat) (a1 a2 a3 : Int), zint a1 → zint a2 → zint a3 → zCallI X L n 111 235 [.inl a1, .inl a2, .inl a3]
def zA_42 (X : zX) (L : zLt) : Prop := ∀ (n : Nat) (a1 a2 a3 a4 a5 : Int), zint a1 → zint a2 → zint a3 → zint a4 → zint a5 → zCallI X L n 112 236 [.inl a1, .inl a2, .inl a3, .inl a4, .inl a5]
def zA_43 (X : zX) (L : zLt) : Prop := ∀ (n : Nat) (a1 : Int), zint a1 → zCallI X L n 113 237 [.inl a1]
def zA_44 (X : zX) (L : zLt) : Prop := ∀ (n : Nat) (a1 : Int), zint a1 → zCallI X L n 114 238 [.inl a1]
def zA_45 (X : zX) (L : zLt) : Prop := ∀ (n : Nat), zCallI X L n 115 239 []
def zA_46 (X : zX) (L : zLt) : Prop := ∀ (n : Nat), zCallI X L n 116 240 []
def zA_47 (X : zX) (L : zLt) : Prop := ∀ (n : Nat), zCallI X L n 117 241 []
def zA_48 (X : zX) (L : zLt) : Prop := ∀ (n : Nat) (a1 : Int), zint a1 → zCallI X L n 118 244 [.inl a1]
def zA_49 (X : zX) (L : zLt) : Prop := ∀ (n : Nat) (a1 : Int), zint a1 → zCallI X L n 119 245 [.inl a1]
def zAll (X : zX) (L : zLt) : Prop := zA_0 X L ∧ zA_1 X L ∧ zA_2 X L ∧ zA_3 X L ∧ zA_4 X L ∧ zA_5 X L ∧ zA_6 X L ∧ zA_7 X L ∧ zA_8 X L ∧ zA_9 X L ∧ zA_10 X L ∧ zA_11 X L ∧ zA_12 X L ∧ zA_13 X L ∧ zA_14 X L ∧ zA_15 X L ∧ zA_16 X L ∧ zA_17 X L ∧ zA_18 X L ∧ zA_19 X L ∧ zA_20 X L ∧ zA_21 X L ∧ zA_22 X L ∧ zA_23 X L ∧ zA_24 X L ∧ zA_25 X L ∧ zA_26 X L ∧ zA_27 X L ∧ zA_28 X L ∧ zA_29 X L ∧ zA_30 X L ∧ zA_31 X L ∧ zA_32 X L ∧ zA_33 X L ∧ zA_34 X L ∧ zA_35 X L ∧ zA_36 X L ∧ zA_37 X L ∧ zA_38 X L ∧ zA_39 X L ∧ zA_40 X L ∧ zA_41 X L ∧ zA_42 X L ∧ zA_43 X L ∧ zA_44 X L ∧ zA_45 X L ∧ zA_46 X L ∧ zA_47 X L ∧ zA_48 X L ∧ zA_49 X L
section
variable {X : zX} {L : zLt} {I : Nat → Nat → Int} {S : zSt} {n i : Nat}
def zLoopOK (X : zX) (L : zLt) (n i : Nat) : Prop := ∀ (I : Nat → Nat → Int) (S : zSt), zSOK n S → zRX I S → zRM I S → ∃ rf : zMem, zgo X (zcal X zP 40) zc_law 18 [some (.inr (.inr (.inr 0))), some (.inr (.inr (.inl 1))), some (.inr (.inr (.inl 135))), some (.inl (i : Int))] [] (I, L) = some (some (.inl 1), rf) ∧ rf.2 = L
theorem zlc_w {k : Nat} (hi : i + 6 ≤ (X 0).1) (hl : (X 0).1 ≤ 3072) (hk : k ≤ 5) : w32 ((i : Int) + (k : Int)) = ((i + k : Nat) : Int) := by unfold w32; omega
theorem zlc_g {k : Nat} (hi : i + 6 ≤ (X 0).1) (hk : k ≤ 5) : ((0 : Nat) < 4 ∧ 0 ≤ ((i + k : Nat) : Int) ∧ ((i + k : Nat) : Int) < ((X 0).1 : Int)) = True := eq_true ⟨by omega, by omega, by omega⟩
theorem zlc_0 (hL : zLay L) (hA : zA_0 X L) (hX : ∀ j, zint ((X 0).2 j)) (hl : (X 0).1 ≤ 3072) (hi : i + 6 ≤ (X 0).1) (hn : n < 100000) (ho : zSOK n S) (hx : zRX I S) (hm : zRM I S) (hloop : zLoopOK X L (n + 1) (i + 6)) : ∃ rf : zMem, zgo X (zcal X zP 40) zc_law 33 [some (.inr (.inr (.inr 0))), some (.inr (.inr (.inl 1))), some (.inr (.inr (.inl 135))), some (.inl (i : Int))] [.inl 0] (I, L) = some (some (.inl 1), rf) ∧ rf.2 = L := by
  obtain ⟨z, S', h1, h2, h3⟩ := hA n _ (hX (i + 1)) S ho hn
  obtain ⟨I1, q1, r1, f1⟩ := h1 I hx
  obtain ⟨I2, q2, r2, f2⟩ := h2 I1 (zRM_row f1 hm)
  obtain ⟨rf, q3, q4⟩ := hloop I2 S' h3 (zRX_row h3 f2 r1) r2
  have e1 : w32 ((i : Int) + 1) = ((i + 1 : Nat) : Int) := zlc_w (k := 1) hi hl (by omega)
  have g1 := zlc_g (X := X) (i := i) (k := 1) hi (by omega)
  have e6 : w32 ((i : Int) + 6) = ((i + 6 : Nat) : Int) := by unfold w32; omega
  refine ⟨rf, ?_, q4⟩
  rw [zb_law_33_0]
  simp only [if_true, if_false, Option.bind_some, Option.bind, Option.toList, List.cons_append, List.nil_append, zite0, zite1, zite01, znn, ite_not, true_or, or_true, true_and, and_true, e1, g1, zk_1 hL, zk_135 hL, Int.toNat_natCast, q1, zb_law_257, q2, zb_law_266, zcmp_eq, zb_law_1671, e6]
  exact q3
theorem zlc_1 (hL : zLay L) (hA : zA_1 X L) (hX : ∀ j, zint ((X 0).2 j)) (hl : (X 0).1 ≤ 3072) (hi : i + 6 ≤ (X 0).1) (hn : n < 100000) (ho : zSOK n S) (hx : zRX I S) (hm : zRM I S) (hloop : zLoopOK X L (n + 1) (i + 6)) : ∃ rf : zMem, zgo X (zcal X zP 40) zc_law 33 [some (.inr (.inr (.inr 0))), some (.inr (.inr (.inl 1))), some (.inr (.inr (.inl 135))), some (.inl (i : Int))] [.inl 1] (I, L) = some (some (.inl 1), rf) ∧ rf.2 = L := by
  obtain ⟨z, S', h1, h2, h3⟩ := hA n _ (hX (i + 1)) S ho hn
  obtain ⟨I1, q1, r1, f1⟩ := h1 I hx
  obtain ⟨I2, q2, r2, f2⟩ := h2 I1 (zRM_row f1 hm)
  obtain ⟨rf, q3, q4⟩ := hloop I2 S' h3 (zRX_row h3 f2 r1) r2
  have e1 : w32 ((i : Int) + 1) = ((i + 1 : Nat) : Int) := zlc_w (k := 1) hi hl (by omega)
  have g1 := zlc_g (X := X) (i := i) (k := 1) hi (by omega)
  have e6 : w32 ((i : Int) + 6) = ((i + 6 : Nat) : Int) := by unfold w32; omega
  refine ⟨rf, ?_, q4⟩
  rw [zb_law_33_1]
  simp only [if_true, if_false, Option.bind_some, Option.bind, Option.toList, List.cons_append, List.nil_append, zite0, zite1, zite01, znn, ite_not, true_or, or_true, true_and, and_true, e1, g1, zk_1 hL, zk_135 hL, Int.toNat_natCast, q1, zb_law_280, q2, zb_law_289, zcmp_eq, zb_law_1671, e6]
  exact q3
theorem zlc_2 (hL : zLay L) (hA : zA_2 X L) (hX : ∀ j, zint ((X 0).2 j)) (hl : (X 0).1 ≤ 3072) (hi : i + 6 ≤ (X 0).1) (hn : n < 100000) (ho : zSOK n S) (hx : zRX I S) (hm : zRM I S) (hloop : zLoopOK X L (n + 1) (i + 6)) : ∃ rf : zMem, zgo X (zcal X zP 40) zc_law 33 [some (.inr (.inr (.inr 0))), some (.inr (.inr (.inl 1))), some (.inr (.inr (.inl 135))), some (.inl (i : Int))] [.inl 2] (I, L) = some (some (.inl 1), rf) ∧ rf.2 = L := by
  obtain ⟨z, S', h1, h2, h3⟩ := hA n _ _ _ (hX (i + 1)) (hX (i + 2)) (hX (i + 3)) S ho hn
  obtain ⟨I1, q1, r1, f1⟩ := h1 I hx
  obtain ⟨I2, q2, r2, f2⟩ := h2 I1 (zRM_row f1 hm)
  obtain ⟨rf, q3, q4⟩ := hloop I2 S' h3 (zRX_row h3 f2 r1) r2
  have e1 : w32 ((i : Int) + 1) = ((i + 1 : Nat) : Int) := zlc_w (k := 1) hi hl (by omega)
  have g1 := zlc_g (X := X) (i := i) (k := 1) hi (by omega)
  have e2 : w32 ((i : Int) + 2) = ((i + 2 : Nat) : Int) := zlc_w (k := 2) hi hl (by omega)
  have g2 := zlc_g (X := X) (i := i) (k := 2) hi (by omega)
  have e3 : w32 ((i : Int) + 3) = ((i + 3 : Nat) : Int) := zlc_w (k := 3) hi hl (by omega)
  have g3 := zlc_g (X := X) (i := i) (k := 3) hi (by omega)
  have e6 : w32 ((i : Int) + 6) = ((i + 6 : Nat) : Int) := by unfold w32; omega
  refine ⟨rf, ?_, q4⟩
  rw [zb_law_33_2]
  simp only [if_true, if_false, Option.bind_some, Option.bind, Option.toList, List.cons_append, List.nil_append, zite0, zite1, zite01, znn, ite_not, true_or, or_true, true_and, and_true, e1, g1, e2, g2, e3, g3, zk_1 hL, zk_135 hL, Int.toNat_natCast, q1, zb_law_313, q2, zb_law_332, zcmp_eq, zb_law_1671, e6]
  exact q3
theorem zlc_3 (hL : zLay L) (hA : zA_3 X L) (hX : ∀ j, zint ((X 0).2 j)) (hl : (X 0).1 ≤ 3072) (hi : i + 6 ≤ (X 0).1) (hn : n < 100000) (ho : zSOK n S) (hx : zRX I S) (hm : zRM I S) (hloop : zLoopOK X L (n + 1) (i + 6)) : ∃ rf : zMem, zgo X (zcal X zP 40) zc_law 33 [some (.inr (.inr (.inr 0))), some (.inr (.inr (.inl 1))), some (.inr (.inr (.inl 135))), some (.inl (i : Int))] [.inl 3] (I, L) = some (some (.inl 1), rf) ∧ rf.2 = L := by
  obtain ⟨z, S', h1, h2, h3⟩ := hA n _ _ (hX (i + 1)) (hX (i + 2)) S ho hn
  obtain ⟨I1, q1, r1, f1⟩ := h1 I hx
  obtain ⟨I2, q2, r2, f2⟩ := h2 I1 (zRM_row f1 hm)
  obtain ⟨rf, q3, q4⟩ := hloop I2 S' h3 (zRX_row h3 f2 r1) r2
  have e1 : w32 ((i : Int) + 1) = ((i + 1 : Nat) : Int) := zlc_w (k := 1) hi hl (by omega)
  have g1 := zlc_g (X := X) (i := i) (k := 1) hi (by omega)
  have e2 : w32 ((i : Int) + 2) = ((i + 2 : Nat) : Int) := zlc_w (k := 2) hi hl (by omega)
  have g2 := zlc_g (X := X) (i := i) (k := 2) hi (by omega)
  have e6 : w32 ((i : Int) + 6) = ((i + 6 : Nat) : Int) := by unfold w32; omega
  refine ⟨rf, ?_, q4⟩
  rw [zb_law_33_3]
  simp only [if_true, if_false, Option.bind_some, Option.bind, Option.toList, List.cons_append, List.nil_append, zite0, zite1, zite01, znn, ite_not, true_or, or_true, true_and, and_true, e1, g1, e2, g2, zk_1 hL, zk_135 hL, Int.toNat_natCast, q1, zb_law_351, q2, zb_law_365, zcmp_eq, zb_law_1671, e6]
  exact q3
theorem zlc_4 (hL : zLay L) (hA : zA_4 X L) (hX : ∀ j, zint ((X 0).2 j)) (hl : (X 0).1 ≤ 3072) (hi : i + 6 ≤ (X 0).1) (hn : n < 100000) (ho : zSOK n S) (hx : zRX I S) (hm : zRM I S) (hloop : zLoopOK X L (n + 1) (i + 6)) : ∃ rf : zMem, zgo X (zcal X zP 40) zc_law 33 [some (.inr (.inr (.inr 0))), some (.inr (.inr (.inl 1))), some (.inr (.inr (.inl 135))), some (.inl (i : Int))] [.inl 4] (I, L) = some (some (.inl 1), rf) ∧ rf.2 = L := by
  obtain ⟨z, S', h1, h2, h3⟩ := hA n _ _ (hX (i + 1)) (hX (i + 2)) S ho hn
  obtain ⟨I1, q1, r1, f1⟩ := h1 I hx
  obtain ⟨I2, q2, r2, f2⟩ := h2 I1 (zRM_row f1 hm)
  obtain ⟨rf, q3, q4⟩ := hloop I2 S' h3 (zRX_row h3 f2 r1) r2
  have e1 : w32 ((i : Int) + 1) = ((i + 1 : Nat) : Int) := zlc_w (k := 1) hi hl (by omega)
  have g1 := zlc_g (X := X) (i := i) (k := 1) hi (by omega)
  have e2 : w32 ((i : Int) + 2) = ((i + 2 : Nat) : Int) := zlc_w (k := 2) hi hl (by omega)
  have g2 := zlc_g (X := X) (i := i) (k := 2) hi (by omega)
  have e6 : w32 ((i : Int) + 6) = ((i + 6 : Nat) : Int) := by unfold w32; omega
  refine ⟨rf, ?_, q4⟩
  rw [zb_law_33_4]
  simp only [if_true, if_false, Option.bind_some, Option.bind, Option.toList, List.cons_append, List.nil_append, zite0, zite1, zite01, znn, ite_not, true_or, or_true, true_and, and_true, e1, g1, e2, g2, zk_1 hL, zk_135 hL, Int.toNat_natCast, q1, zb_law_384, q2, zb_law_398, zcmp_eq, zb_law_1671, e6]
  exact q3
theorem zlc_5 (hL : zLay L) (hA : zA_5 X L) (hX : ∀ j, zint ((X 0).2 j)) (hl : (X 0).1 ≤ 3072) (hi : i + 6 ≤ (X 0).1) (hn : n < 100000) (ho : zSOK n S) (hx : zRX I S) (hm : zRM I S) (hloop : zLoopOK X L (n + 1) (i + 6)) : ∃ rf : zMem, zgo X (zcal X zP 40) zc_law 33 [some (.inr (.inr (.inr 0))), some (.inr (.inr (.inl 1))), some (.inr (.inr (.inl 135))), some (.inl (i : Int))] [.inl 5] (I, L) = some (some (.inl 1), rf) ∧ rf.2 = L := by
  obtain ⟨z, S', h1, h2, h3⟩ := hA n   S ho hn
  obtain ⟨I1, q1, r1, f1⟩ := h1 I hx
  obtain ⟨I2, q2, r2, f2⟩ := h2 I1 (zRM_row f1 hm)
  obtain ⟨rf, q3, q4⟩ := hloop I2 S' h3 (zRX_row h3 f2 r1) r2
  have e6 : w32 ((i : Int) + 6) = ((i + 6 : Nat) : Int) := by unfold w32; omega
  refine ⟨rf, ?_, q4⟩
  rw [zb_law_33_5]
  simp only [if_true, if_false, Option.bind_some, Option.bind, Option.toList, List.cons_append, List.nil_append, zite0, zite1, zite01, znn, ite_not, true_or, or_true, true_and, and_true, zk_1 hL, zk_135 hL, Int.toNat_natCast, q1, zb_law_407, q2, zb_law_411, zcmp_eq, zb_law_1671, e6]
  exact q3
theorem zlc_6 (hL : zLay L) (hA : zA_6 X L) (hX : ∀ j, zint ((X 0).2 j)) (hl : (X 0).1 ≤ 3072) (hi : i + 6 ≤ (X 0).1) (hn : n < 100000) (ho : zSOK n S) (hx : zRX I S) (hm : zRM I S) (hloop : zLoopOK X L (n + 1) (i + 6)) : ∃ rf : zMem, zgo X (zcal X zP 40) zc_law 33 [some (.inr (.inr (.inr 0))), some (.inr (.inr (.inl 1))), some (.inr (.inr (.inl 135))), some (.inl (i : Int))] [.inl 6] (I, L) = some (some (.inl 1), rf) ∧ rf.2 = L := by
  obtain ⟨z, S', h1, h2, h3⟩ := hA n _ (hX (i + 1)) S ho hn
  obtain ⟨I1, q1, r1, f1⟩ := h1 I hx
  obtain ⟨I2, q2, r2, f2⟩ := h2 I1 (zRM_row f1 hm)
  obtain ⟨rf, q3, q4⟩ := hloop I2 S' h3 (zRX_row h3 f2 r1) r2
  have e1 : w32 ((i : Int) + 1) = ((i + 1 : Nat) : Int) := zlc_w (k := 1) hi hl (by omega)
  have g1 := zlc_g (X := X) (i := i) (k := 1) hi (by omega)
  have e6 : w32 ((i : Int) + 6) = ((i + 6 : Nat) : Int) := by unfold w32; omega
  refine ⟨rf, ?_, q4⟩
  rw [zb_law_33_6]
  simp only [if_true, if_false, Option.bind_some, Option.bind, Option.toList, List.cons_append, List.nil_append, zite0, zite1, zite01, znn, ite_not, true_or, or_true, true_and, and_true, e1, g1, zk_1 hL, zk_135 hL, Int.toNat_natCast, q1, zb_law_425, q2, zb_law_434, zcmp_eq, zb_law_1671, e6]
  exact q3
theorem zlc_7 (hL : zLay L) (hA : zA_7 X L) (hX : ∀ j, zint ((X 0).2 j)) (hl : (X 0).1 ≤ 3072) (hi : i + 6 ≤ (X 0).1) (hn : n < 100000) (ho : zSOK n S) (hx : zRX I S) (hm : zRM I S) (hloop : zLoopOK X L (n + 1) (i + 6)) : ∃ rf : zMem, zgo X (zcal X zP 40) zc_law 33 [some (.inr (.inr (.inr 0))), some (.inr (.inr (.inl 1))), some (.inr (.inr (.inl 135))), some (.inl (i : Int))] [.inl 7] (I, L) = some (some (.inl 1), rf) ∧ rf.2 = L := by
  obtain ⟨z, S', h1, h2, h3⟩ := hA n _ _ (hX (i + 1)) (hX (i + 2)) S ho hn
  obtain ⟨I1, q1, r1, f1⟩ := h1 I hx
  obtain ⟨I2, q2, r2, f2⟩ := h2 I1 (zRM_row f1 hm)
  obtain ⟨rf, q3, q4⟩ := hloop I2 S' h3 (zRX_row h3 f2 r1) r2
  have e1 : w32 ((i : Int) + 1) = ((i + 1 : Nat) : Int) := zlc_w (k := 1) hi hl (by omega)
  have g1 := zlc_g (X := X) (i := i) (k := 1) hi (by omega)
  have e2 : w32 ((i : Int) + 2) = ((i + 2 : Nat) : Int) := zlc_w (k := 2) hi hl (by omega)
  have g2 := zlc_g (X := X) (i := i) (k := 2) hi (by omega)
  have e6 : w32 ((i : Int) + 6) = ((i + 6 : Nat) : Int) := by unfold w32; omega
  refine ⟨rf, ?_, q4⟩
  rw [zb_law_33_7]
  simp only [if_true, if_false, Option.bind_some, Option.bind, Option.toList, List.cons_append, List.nil_append, zite0, zite1, zite01, znn, ite_not, true_or, or_true, true_and, and_true, e1, g1, e2, g2, zk_1 hL, zk_135 hL, Int.toNat_natCast, q1, zb_law_453, q2, zb_law_467, zcmp_eq, zb_law_1671, e6]
  exact q3
theorem zlc_8 (hL : zLay L) (hA : zA_8 X L) (hX : ∀ j, zint ((X 0).2 j)) (hl : (X 0).1 ≤ 3072) (hi : i + 6 ≤ (X 0).1) (hn : n < 100000) (ho : zSOK n S) (hx : zRX I S) (hm : zRM I S) (hloop : zLoopOK X L (n + 1) (i + 6)) : ∃ rf : zMem, zgo X (zcal X zP 40) zc_law 33 [some (.inr (.inr (.inr 0))), some (.inr (.inr (.inl 1))), some (.inr (.inr (.inl 135))), some (.inl (i : Int))] [.inl 8] (I, L) = some (some (.inl 1), rf) ∧ rf.2 = L := by
  obtain ⟨z, S', h1, h2, h3⟩ := hA n   S ho hn
  obtain ⟨I1, q1, r1, f1⟩ := h1 I hx
  obtain ⟨I2, q2, r2, f2⟩ := h2 I1 (zRM_row f1 hm)
  obtain ⟨rf, q3, q4⟩ := hloop I2 S' h3 (zRX_row h3 f2 r1) r2
  have e6 : w32 ((i : Int) + 6) = ((i + 6 : Nat) : Int) := by unfold w32; omega
  refine ⟨rf, ?_, q4⟩
  rw [zb_law_33_8]
  simp only [if_true, if_false, Option.bind_some, Option.bind, Option.toList, List.cons_append, List.nil_append, zite0, zite1, zite01, znn, ite_not, true_or, or_true, true_and, and_true, zk_1 hL, zk_135 hL, Int.toNat_natCast, q1, zb_law_476, q2, zb_law_480, zcmp_eq, zb_law_1671, e6]
  exact q3
theorem zlc_9 (hL : zLay L) (hA : zA_9 X L) (hX : ∀ j, zint ((X 0).2 j)) (hl : (X 0).1 ≤ 3072) (hi : i + 6 ≤ (X 0).1) (hn : n < 100000) (ho : zSOK n S) (hx : zRX I S) (hm : zRM I S) (hloop : zLoopOK X L (n + 1) (i + 6)) : ∃ rf : zMem, zgo X (zcal X zP 40) zc_law 33 [some (.inr (.inr (.inr 0))), some (.inr (.inr (.inl 1))), some (.inr (.inr (.inl 135))), some (.inl (i : Int))] [.inl 9] (I, L) = some (some (.inl 1), rf) ∧ rf.2 = L := by
  obtain ⟨z, S', h1, h2, h3⟩ := hA n _ _ _ (hX (i + 1)) (hX (i + 2)) (hX (i + 3)) S ho hn
  obtain ⟨I1, q1, r1, f1⟩ := h1 I hx
  obtain ⟨I2, q2, r2, f2⟩ := h2 I1 (zRM_row f1 hm)
  obtain ⟨rf, q3, q4⟩ := hloop I2 S' h3 (zRX_row h3 f2 r1) r2
  have e1 : w32 ((i : Int) + 1) = ((i + 1 : Nat) : Int) := zlc_w (k := 1) hi hl (by omega)
  have g1 := zlc_g (X := X) (i := i) (k := 1) hi (by omega)
  have e2 : w32 ((i : Int) + 2) = ((i + 2 : Nat) : Int) := zlc_w (k := 2) hi hl (by omega)
  have g2 := zlc_g (X := X) (i := i) (k := 2) hi (by omega)
  have e3 : w32 ((i : Int) + 3) = ((i + 3 : Nat) : Int) := zlc_w (k := 3) hi hl (by omega)
  have g3 := zlc_g (X := X) (i := i) (k := 3) hi (by omega)
  have e6 : w32 ((i : Int) + 6) = ((i + 6 : Nat) : Int) := by unfold w32; omega
  refine ⟨rf, ?_, q4⟩
  rw [zb_law_33_9]
  simp only [if_true, if_false, Option.bind_some, Option.bind, Option.toList, List.cons_append, List.nil_append, zite0, zite1, zite01, znn, ite_not, true_or, or_true, true_and, and_true, e1, g1, e2, g2, e3, g3, zk_1 hL, zk_135 hL, Int.toNat_natCast, q1, zb_law_504, q2, zb_law_523, zcmp_eq, zb_law_1671, e6]
  exact q3
theorem zlc_10 (hL : zLay L) (hA : zA_10 X L) (hX : ∀ j, zint ((X 0).2 j)) (hl : (X 0).1 ≤ 3072) (hi : i + 6 ≤ (X 0).1) (hn : n < 100000) (ho : zSOK n S) (hx : zRX I S) (hm : zRM I S) (hloop : zLoopOK X L (n + 1) (i + 6)) : ∃ rf : zMem, zgo X (zcal X zP 40) zc_law 33 [some (.inr (.inr (.inr 0))), some (.inr (.inr (.inl 1))), some (.inr (.inr (.inl 135))), some (.inl (i : Int))] [.inl 10] (I, L) = some (some (.inl 1), rf) ∧ rf.2 = L := by
  obtain ⟨z, S', h1, h2, h3⟩ := hA n _ _ _ (hX (i + 1)) (hX (i + 2)) (hX (i + 3)) S ho hn
  obtain ⟨I1, q1, r1, f1⟩ := h1 I hx
  obtain ⟨I2, q2, r2, f2⟩ := h2 I1 (zRM_row f1 hm)
  obtain ⟨rf, q3, q4⟩ := hloop I2 S' h3 (zRX_row h3 f2 r1) r2
  have e1 : w32 ((i : Int) + 1) = ((i + 1 : Nat) : Int) := zlc_w (k := 1) hi hl (by omega)
  have g1 := zlc_g (X := X) (i := i) (k := 1) hi (by omega)
  have e2 : w32 ((i : Int) + 2) = ((i + 2 : Nat) : Int) := zlc_w (k := 2) hi hl (by omega)
  have g2 := zlc_g (X := X) (i := i) (k := 2) hi (by omega)
  have e3 : w32 ((i : Int) + 3) = ((i + 3 : Nat) : Int) := zlc_w (k := 3) hi hl (by omega)
  have g3 := zlc_g (X := X) (i := i) (k := 3) hi (by omega)
  have e6 : w32 ((i : Int) + 6) = ((i + 6 : Nat) : Int) := by unfold w32; omega
  refine ⟨rf, ?_, q4⟩
  rw [zb_law_33_10]
  simp only [if_true, if_false, Option.bind_some, Option.bind, Option.toList, List.cons_append, List.nil_append, zite0, zite1, zite01, znn, ite_not, true_or, or_true, true_and, and_true, e1, g1, e2, g2, e3, g3, zk_1 hL, zk_135 hL, Int.toNat_natCast, q1, zb_law_547, q2, zb_law_566, zcmp_eq, zb_law_1671, e6]
  exact q3
theorem zlc_11 (hL : zLay L) (hA : zA_11 X L) (hX : ∀ j, zint ((X 0).2 j)) (hl : (X 0).1 ≤ 3072) (hi : i + 6 ≤ (X 0).1) (hn : n < 100000) (ho : zSOK n S) (hx : zRX I S) (hm : zRM I S) (hloop : zLoopOK X L (n + 1) (i + 6)) : ∃ rf : zMem, zgo X (zcal X zP 40) zc_law 33 [some (.inr (.inr (.inr 0))), some (.inr (.inr (.inl 1))), some (.inr (.inr (.inl 135))), some (.inl (i : Int))] [.inl 11] (I, L) = some (some (.inl 1), rf) ∧ rf.2 = L := by
  obtain ⟨z, S', h1, h2, h3⟩ := hA n _ (hX (i + 1)) S ho hn
  obtain ⟨I1, q1, r1, f1⟩ := h1 I hx
  obtain ⟨I2, q2, r2, f2⟩ := h2 I1 (zRM_row f1 hm)
  obtain ⟨rf, q3, q4⟩ := hloop I2 S' h3 (zRX_row h3 f2 r1) r2
  have e1 : w32 ((i : Int) + 1) = ((i + 1 : Nat) : Int) := zlc_w (k := 1) hi hl (by omega)
  have g1 := zlc_g (X := X) (i := i) (k := 1) hi (by omega)
  have e6 : w32 ((i : Int) + 6) = ((i + 6 : Nat) : Int) := by unfold w32; omega
  refine ⟨rf, ?_, q4⟩
  rw [zb_law_33_11]
  simp only [if_true, if_false, Option.bind_some, Option.bind, Option.toList, List.cons_append, List.nil_append, zite0, zite1, zite01, znn, ite_not, true_or, or_true, true_and, and_true, e1, g1, zk_1 hL, zk_135 hL, Int.toNat_natCast, q1, zb_law_581, q2, zb_law_590, zcmp_eq, zb_law_1671, e6]
  exact q3
theorem zlc_12 (hL : zLay L) (hA : zA_12 X L) (hX : ∀ j, zint ((X 0).2 j)) (hl : (X 0).1 ≤ 3072) (hi : i + 6 ≤ (X 0).1) (hn : n < 100000) (ho : zSOK n S) (hx : zRX I S) (hm : zRM I S) (hloop : zLoopOK X L (n + 1) (i + 6)) : ∃ rf : zMem, zgo X (zcal X zP 40) zc_law 33 [some (.inr (.inr (.inr 0))), some (.inr (.inr (.inl 1))), some (.inr (.inr (.inl 135))), some (.inl (i : Int))] [.inl 12] (I, L) = some (some (.inl 1), rf) ∧ rf.2 = L := by
  obtain ⟨z, S', h1, h2, h3⟩ := hA n _ (hX (i + 1)) S ho hn
  obtain ⟨I1, q1, r1, f1⟩ := h1 I hx
  obtain ⟨I2, q2, r2, f2⟩ := h2 I1 (zRM_row f1 hm)
  obtain ⟨rf, q3, q4⟩ := hloop I2 S' h3 (zRX_row h3 f2 r1) r2
  have e1 : w32 ((i : Int) + 1) = ((i + 1 : Nat) : Int) := zlc_w (k := 1) hi hl (by omega)
  have g1 := zlc_g (X := X) (i := i) (k := 1) hi (by omega)
  have e6 : w32 ((i : Int) + 6) = ((i + 6 : Nat) : Int) := by unfold w32; omega
  refine ⟨rf, ?_, q4⟩
  rw [zb_law_33_12]
  simp only [if_true, if_false, Option.bind_some, Option.bind, Option.toList, List.cons_append, List.nil_append, zite0, zite1, zite01, znn, ite_not, true_or, or_true, true_and, and_true, e1, g1, zk_1 hL, zk_135 hL, Int.toNat_natCast, q1, zb_law_604, q2, zb_law_613, zcmp_eq, zb_law_1671, e6]
  exact q3
theorem zlc_13 (hL : zLay L) (hA : zA_13 X L) (hX : ∀ j, zint ((X 0).2 j)) (hl : (X 0).1 ≤ 3072) (hi : i + 6 ≤ (X 0).1) (hn : n < 100000) (ho : zSOK n S) (hx : zRX I S) (hm : zRM I S) (hloop : zLoopOK X L (n + 1) (i + 6)) : ∃ rf : zMem, zgo X (zcal X zP 40) zc_law 33 [some (.inr (.inr (.inr 0))), some (.inr (.inr (.inl 1))), some (.inr (.inr (.inl 135))), some (.inl (i : Int))] [.inl 13] (I, L) = some (some (.inl 1), rf) ∧ rf.2 = L := by
  obtain ⟨z, S', h1, h2, h3⟩ := hA n _ (hX (i + 1)) S ho hn
  obtain ⟨I1, q1, r1, f1⟩ := h1 I hx
  obtain ⟨I2, q2, r2, f2⟩ := h2 I1 (zRM_row f1 hm)
  obtain ⟨rf, q3, q4⟩ := hloop I2 S' h3 (zRX_row h3 f2 r1) r2
  have e1 : w32 ((i : Int) + 1) = ((i + 1 : Nat) : Int) := zlc_w (k := 1) hi hl (by omega)
  have g1 := zlc_g (X := X) (i := i) (k := 1) hi (by omega)
  have e6 : w32 ((i : Int) + 6) = ((i + 6 : Nat) : Int) := by unfold w32; omega
  refine ⟨rf, ?_, q4⟩
  rw [zb_law_33_13]
  simp only [if_true, if_false, Option.bind_some, Option.bind, Option.toList, List.cons_append, List.nil_append, zite0, zite1, zite01, znn, ite_not, true_or, or_true, true_and, and_true, e1, g1, zk_1 hL, zk_135 hL, Int.toNat_natCast, q1, zb_law_628, q2, zb_law_637, zcmp_eq, zb_law_1671, e6]
  exact q3
theorem zlc_14 (hL : zLay L) (hA : zA_14 X L) (hX : ∀ j, zint ((X 0).2 j)) (hl : (X 0).1 ≤ 3072) (hi : i + 6 ≤ (X 0).1) (hn : n < 100000) (ho : zSOK n S) (hx : zRX I S) (hm : zRM I S) (hloop : zLoopOK X L (n + 1) (i + 6)) : ∃ rf : zMem, zgo X (zcal X zP 40) zc_law 33 [some (.inr (.inr (.inr 0))), some (.inr (.inr (.inl 1))), some (.inr (.inr (.inl 135))), some (.inl (i : Int))] [.inl 14] (I, L) = some (some (.inl 1), rf) ∧ rf.2 = L := by
  obtain ⟨z, S', h1, h2, h3⟩ := hA n _ _ (hX (i + 1)) (hX (i + 2)) S ho hn
  obtain ⟨I1, q1, r1, f1⟩ := h1 I hx
  obtain ⟨I2, q2, r2, f2⟩ := h2 I1 (zRM_row f1 hm)
  obtain ⟨rf, q3, q4⟩ := hloop I2 S' h3 (zRX_row h3 f2 r1) r2
  have e1 : w32 ((i : Int) + 1) = ((i + 1 : Nat) : Int) := zlc_w (k := 1) hi hl (by omega)
  have g1 := zlc_g (X := X) (i := i) (k := 1) hi (by omega)
  have e2 : w32 ((i : Int) + 2) = ((i + 2 : Nat) : Int) := zlc_w (k := 2) hi hl (by omega)
  have g2 := zlc_g (X := X) (i := i) (k := 2) hi (by omega)
  have e6 : w32 ((i : Int) + 6) = ((i + 6 : Nat) : Int) := by unfold w32; omega
  refine ⟨rf, ?_, q4⟩
  rw [zb_law_33_14]
  simp only [if_true, if_false, Option.bind_some, Option.bind, Option.toList, List.cons_append, List.nil_append, zite0, zite1, zite01, znn, ite_not, true_or, or_true, true_and, and_true, e1, g1, e2, g2, zk_1 hL, zk_135 hL, Int.toNat_natCast, q1, zb_law_656, q2, zb_law_670, zcmp_eq, zb_law_1671, e6]
  exact q3
theorem zlc_15 (hL : zLay L) (hA : zA_15 X L) (hX : ∀ j, zint ((X 0).2 j)) (hl : (X 0).1 ≤ 3072) (hi : i + 6 ≤ (X 0).1) (hn : n < 100000) (ho : zSOK n S) (hx : zRX I S) (hm : zRM I S) (hloop : zLoopOK X L (n + 1) (i + 6)) : ∃ rf : zMem, zgo X (zcal X zP 40) zc_law 33 [some (.inr (.inr (.inr 0))), some (.inr (.inr (.inl 1))), some (.inr (.inr (.inl 135))), some (.inl (i : Int))] [.inl 15] (I, L) = some (some (.inl 1), rf) ∧ rf.2 = L := by
  obtain ⟨z, S', h1, h2, h3⟩ := hA n _ (hX (i + 1)) S ho hn
  obtain ⟨I1, q1, r1, f1⟩ := h1 I hx
  obtain ⟨I2, q2, r2, f2⟩ := h2 I1 (zRM_row f1 hm)
  obtain ⟨rf, q3, q4⟩ := hloop I2 S' h3 (zRX_row h3 f2 r1) r2
  have e1 : w32 ((i : Int) + 1) = ((i + 1 : Nat) : Int) := zlc_w (k := 1) hi hl (by omega)
  have g1 := zlc_g (X := X) (i := i) (k := 1) hi (by omega)
  have e6 : w32 ((i : Int) + 6) = ((i + 6 : Nat) : Int) := by unfold w32; omega
  refine ⟨rf, ?_, q4⟩
  rw [zb_law_33_15]
  simp only [if_true, if_false, Option.bind_some, Option.bind, Option.toList, List.cons_append, List.nil_append, zite0, zite1, zite01, znn, ite_not, true_or, or_true, true_and, and_true, e1, g1, zk_1 hL, zk_135 hL, Int.toNat_natCast, q1, zb_law_684, q2, zb_law_693, zcmp_eq, zb_law_1671, e6]
  exact q3
theorem zlc_16 (hL : zLay L) (hA : zA_16 X L) (hX : ∀ j, zint ((X 0).2 j)) (hl : (X 0).1 ≤ 3072) (hi : i + 6 ≤ (X 0).1) (hn : n < 100000) (ho : zSOK n S) (hx : zRX I S) (hm : zRM I S) (hloop : zLoopOK X L (n + 1) (i + 6)) : ∃ rf : zMem, zgo X (zcal X zP 40) zc_law 33 [some (.inr (.inr (.inr 0))), some (.inr (.inr (.inl 1))), some (.inr (.inr (.inl 135))), some (.inl (i : Int))] [.inl 16] (I, L) = some (some (.inl 1), rf) ∧ rf.2 = L := by
  obtain ⟨z, S', h1, h2, h3⟩ := hA n _ (hX (i + 1)) S ho hn
  obtain ⟨I1, q1, r1, f1⟩ := h1 I hx
  obtain ⟨I2, q2, r2, f2⟩ := h2 I1 (zRM_row f1 hm)
  obtain ⟨rf, q3, q4⟩ := hloop I2 S' h3 (zRX_row h3 f2 r1) r2
  have e1 : w32 ((i : Int) + 1) = ((i + 1 : Nat) : Int) := zlc_w (k := 1) hi hl (by omega)
  have g1 := zlc_g (X := X) (i := i) (k := 1) hi (by omega)
  have e6 : w32 ((i : Int) + 6) = ((i + 6 : Nat) : Int) := by unfold w32; omega
  refine ⟨rf, ?_, q4⟩
  rw [zb_law_33_16]
  simp only [if_true, if_false, Option.bind_some, Option.bind, Option.toList, List.cons_append, List.nil_append, zite0, zite1, zite01, znn, ite_not, true_or, or_true, true_and, and_true, e1, g1, zk_1 hL, zk_135 hL, Int.toNat_natCast, q1, zb_law_707, q2, zb_law_716, zcmp_eq, zb_law_1671, e6]
  exact q3
theorem zlc_17 (hL : zLay L) (hA : zA_17 X L) (hX : ∀ j, zint ((X 0).2 j)) (hl : (X 0).1 ≤ 3072) (hi : i + 6 ≤ (X 0).1) (hn : n < 100000) (ho : zSOK n S) (hx : zRX I S) (hm : zRM I S) (hloop : zLoopOK X L (n + 1) (i + 6)) : ∃ rf : zMem, zgo X (zcal X zP 40) zc_law 33 [some (.inr (.inr (.inr 0))), some (.inr (.inr (.inl 1))), some (.inr (.inr (.inl 135))), some (.inl (i : Int))] [.inl 17] (I, L) = some (some (.inl 1), rf) ∧ rf.2 = L := by
  obtain ⟨z, S', h1, h2, h3⟩ := hA n _ (hX (i + 1)) S ho hn
  obtain ⟨I1, q1, r1, f1⟩ := h1 I hx
  obtain ⟨I2, q2, r2, f2⟩ := h2 I1 (zRM_row f1 hm)
  obtain ⟨rf, q3, q4⟩ := hloop I2 S' h3 (zRX_row h3 f2 r1) r2
  have e1 : w32 ((i : Int) + 1) = ((i + 1 : Nat) : Int) := zlc_w (k := 1) hi hl (by omega)
  have g1 := zlc_g (X := X) (i := i) (k := 1) hi (by omega)
  have e6 : w32 ((i : Int) + 6) = ((i + 6 : Nat) : Int) := by unfold w32; omega
  refine ⟨rf, ?_, q4⟩
  rw [zb_law_33_17]
  simp only [if_true, if_false, Option.bind_some, Option.bind, Option.toList, List.cons_append, List.nil_append, zite0, zite1, zite01, znn, ite_not, true_or, or_true, true_and, and_true, e1, g1, zk_1 hL, zk_135 hL, Int.toNat_natCast, q1, zb_law_730, q2, zb_law_739, zcmp_eq, zb_law_1671, e6]
  exact q3
theorem zlc_18 (hL : zLay L) (hA : zA_18 X L) (hX : ∀ j, zint ((X 0).2 j)) (hl : (X 0).1 ≤ 3072) (hi : i + 6 ≤ (X 0).1) (hn : n < 100000) (ho : zSOK n S) (hx : zRX I S) (hm : zRM I S) (hloop : zLoopOK X L (n + 1) (i + 6)) : ∃ rf : zMem, zgo X (zcal X zP 40) zc_law 33 [some (.inr (.inr (.inr 0))), some (.inr (.inr (.inl 1))), some (.inr (.inr (.inl 135))), some (.inl (i : Int))] [.inl 18] (I, L) = some (some (.inl 1), rf) ∧ rf.2 = L := by
  obtain ⟨z, S', h1, h2, h3⟩ := hA n _ _ (hX (i + 1)) (hX (i + 2)) S ho hn
  obtain ⟨I1, q1, r1, f1⟩ := h1 I hx
  obtain ⟨I2, q2, r2, f2⟩ := h2 I1 (zRM_row f1 hm)
  obtain ⟨rf, q3, q4⟩ := hloop I2 S' h3 (zRX_row h3 f2 r1) r2
  have e1 : w32 ((i : Int) + 1) = ((i + 1 : Nat) : Int) := zlc_w (k := 1) hi hl (by omega)
  have g1 := zlc_g (X := X) (i := i) (k := 1) hi (by omega)
  have e2 : w32 ((i : Int) + 2) = ((i + 2 : Nat) : Int) := zlc_w (k := 2) hi hl (by omega)
  have g2 := zlc_g (X := X) (i := i) (k := 2) hi (by omega)
  have e6 : w32 ((i : Int) + 6) = ((i + 6 : Nat) : Int) := by unfold w32; omega
  refine ⟨rf, ?_, q4⟩
  rw [zb_law_33_18]
  simp only [if_true, if_false, Option.bind_some, Option.bind, Option.toList, List.cons_append, List.nil_append, zite0, zite1, zite01, znn, ite_not, true_or, or_true, true_and, and_true, e1, g1, e2, g2, zk_1 hL, zk_135 hL, Int.toNat_natCast, q1, zb_law_758, q2, zb_law_772, zcmp_eq, zb_law_1671, e6]
  exact q3
theorem zlc_19 (hL : zLay L) (hA : zA_19 X L) (hX : ∀ j, zint ((X 0).2 j)) (hl : (X 0).1 ≤ 3072) (hi : i + 6 ≤ (X 0).1) (hn : n < 100000) (ho : zSOK n S) (hx : zRX I S) (hm : zRM I S) (hloop : zLoopOK X L (n + 1) (i + 6)) : ∃ rf : zMem, zgo X (zcal X zP 40) zc_law 33 [some (.inr (.inr (.inr 0))), some (.inr (.inr (.inl 1))), some (.inr (.inr (.inl 135))), some (.inl (i : Int))] [.inl 19] (I, L) = some (some (.inl 1), rf) ∧ rf.2 = L := by
  obtain ⟨z, S', h1, h2, h3⟩ := hA n _ _ _ (hX (i + 1)) (hX (i + 2)) (hX (i + 3)) S ho hn
  obtain ⟨I1, q1, r1, f1⟩ := h1 I hx
  obtain ⟨I2, q2, r2, f2⟩ := h2 I1 (zRM_row f1 hm)
  obtain ⟨rf, q3, q4⟩ := hloop I2 S' h3 (zRX_row h3 f2 r1) r2
  have e1 : w32 ((i : Int) + 1) = ((i + 1 : Nat) : Int) := zlc_w (k := 1) hi hl (by omega)
  have g1 := zlc_g (X := X) (i := i) (k := 1) hi (by omega)
  have e2 : w32 ((i : Int) + 2) = ((i + 2 : Nat) : Int) := zlc_w (k := 2) hi hl (by omega)
  have g2 := zlc_g (X := X) (i := i) (k := 2) hi (by omega)
  have e3 : w32 ((i : Int) + 3) = ((i + 3 : Nat) : Int) := zlc_w (k := 3) hi hl (by omega)
  have g3 := zlc_g (X := X) (i := i) (k := 3) hi (by omega)
  have e6 : w32 ((i : Int) + 6) = ((i + 6 : Nat) : Int) := by unfold w32; omega
  refine ⟨rf, ?_, q4⟩
  rw [zb_law_33_19]
  simp only [if_true, if_false, Option.bind_some, Option.bind, Option.toList, List.cons_append, List.nil_append, zite0, zite1, zite01, znn, ite_not, true_or, or_true, true_and, and_true, e1, g1, e2, g2, e3, g3, zk_1 hL, zk_135 hL, Int.toNat_natCast, q1, zb_law_796, q2, zb_law_815, zcmp_eq, zb_law_1671, e6]
  exact q3
theorem zlc_20 (hL : zLay L) (hA : zA_20 X L) (hX : ∀ j, zint ((X 0).2 j)) (hl : (X 0).1 ≤ 3072) (hi : i + 6 ≤ (X 0).1) (hn : n < 100000) (ho : zSOK n S) (hx : zRX I S) (hm : zRM I S) (hloop : zLoopOK X L (n + 1) (i + 6)) : ∃ rf : zMem, zgo X (zcal X zP 40) zc_law 33 [some (.inr (.inr (.inr 0))), some (.inr (.inr (.inl 1))), some (.inr (.inr (.inl 135))), some (.inl (i : Int))] [.inl 20] (I, L) = some (some (.inl 1), rf) ∧ rf.2 = L := by
  obtain ⟨z, S', h1, h2, h3⟩ := hA n _ _ _ _ (hX (i + 1)) (hX (i + 2)) (hX (i + 3)) (hX (i + 4)) S ho hn
  obtain ⟨I1, q1, r1, f1⟩ := h1 I hx
  obtain ⟨I2, q2, r2, f2⟩ := h2 I1 (zRM_row f1 hm)
  obtain ⟨rf, q3, q4⟩ := hloop I2 S' h3 (zRX_row h3 f2 r1) r2
  have e1 : w32 ((i : Int) + 1) = ((i + 1 : Nat) : Int) := zlc_w (k := 1) hi hl (by omega)
  have g1 := zlc_g (X := X) (i := i) (k := 1) hi (by omega)
  have e2 : w32 ((i : Int) + 2) = ((i + 2 : Nat) : Int) := zlc_w (k := 2) hi hl (by omega)
  have g2 := zlc_g (X := X) (i := i) (k := 2) hi (by omega)
  have e3 : w32 ((i : Int) + 3) = ((i + 3 : Nat) : Int) := zlc_w (k := 3) hi hl (by omega)
  have g3 := zlc_g (X := X) (i := i) (k := 3) hi (by omega)
  have e4 : w32 ((i : Int) + 4) = ((i + 4 : Nat) : Int) := zlc_w (k := 4) hi hl (by omega)
  have g4 := zlc_g (X := X) (i := i) (k := 4) hi (by omega)
  have e6 : w32 ((i : Int) + 6) = ((i + 6 : Nat) : Int) := by unfold w32; omega
  refine ⟨rf, ?_, q4⟩
  rw [zb_law_33_20]
  simp only [if_true, if_false, Option.bind_some, Option.bind, Option.toList, List.cons_append, List.nil_append, zite0, zite1, zite01, znn, ite_not, true_or, or_true, true_and, and_true, e1, g1, e2, g2, e3, g3, e4, g4, zk_1 hL, zk_135 hL, Int.toNat_natCast, q1, zb_law_845, q2, zb_law_869, zcmp_eq, zb_law_1671, e6]
  exact q3
theorem zlc_21 (hL : zLay L) (hA : zA_21 X L) (hX : ∀ j, zint ((X 0).2 j)) (hl : (X 0).1 ≤ 3072) (hi : i + 6 ≤ (X 0).1) (hn : n < 100000) (ho : zSOK n S) (hx : zRX I S) (hm : zRM I S) (hloop : zLoopOK X L (n + 1) (i + 6)) : ∃ rf : zMem, zgo X (zcal X zP 40) zc_law 33 [some (.inr (.inr (.inr 0))), some (.inr (.inr (.inl 1))), some (.inr (.inr (.inl 135))), some (.inl (i : Int))] [.inl 21] (I, L) = some (some (.inl 1), rf) ∧ rf.2 = L := by
  obtain ⟨z, S', h1, h2, h3⟩ := hA n _ (hX (i + 1)) S ho hn
  obtain ⟨I1, q1, r1, f1⟩ := h1 I hx
  obtain ⟨I2, q2, r2, f2⟩ := h2 I1 (zRM_row f1 hm)
  obtain ⟨rf, q3, q4⟩ := hloop I2 S' h3 (zRX_row h3 f2 r1) r2
  have e1 : w32 ((i : Int) + 1) = ((i + 1 : Nat) : Int) := zlc_w (k := 1) hi hl (by omega)
  have g1 := zlc_g (X := X) (i := i) (k := 1) hi (by omega)
  have e6 : w32 ((i : Int) + 6) = ((i + 6 : Nat) : Int) := by unfold w32; omega
  refine ⟨rf, ?_, q4⟩
  rw [zb_law_33_21]
  simp only [if_true, if_false, Option.bind_some, Option.bind, Option.toList, List.cons_append, List.nil_append, zite0, zite1, zite01, znn, ite_not, true_or, or_true, true_and, and_true, e1, g1, zk_1 hL, zk_135 hL, Int.toNat_natCast, q1, zb_law_883, q2, zb_law_892, zcmp_eq, zb_law_1671, e6]
  exact q3
theorem zlc_22 (hL : zLay L) (hA : zA_22 X L) (hX : ∀ j, zint ((X 0).2 j)) (hl : (X 0).1 ≤ 3072) (hi : i + 6 ≤ (X 0).1) (hn : n < 100000) (ho : zSOK n S) (hx : zRX I S) (hm : zRM I S) (hloop : zLoopOK X L (n + 1) (i + 6)) : ∃ rf : zMem, zgo X (zcal X zP 40) zc_law 33 [some (.inr (.inr (.inr 0))), some (.inr (.inr (.inl 1))), some (.inr (.inr (.inl 135))), some (.inl (i : Int))] [.inl 22] (I, L) = some (some (.inl 1), rf) ∧ rf.2 = L := by
  obtain ⟨z, S', h1, h2, h3⟩ := hA n _ _ (hX (i + 1)) (hX (i + 2)) S ho hn
  obtain ⟨I1, q1, r1, f1⟩ := h1 I hx
  obtain ⟨I2, q2, r2, f2⟩ := h2 I1 (zRM_row f1 hm)
  obtain ⟨rf, q3, q4⟩ := hloop I2 S' h3 (zRX_row h3 f2 r1) r2
  have e1 : w32 ((i : Int) + 1) = ((i + 1 : Nat) : Int) := zlc_w (k := 1) hi hl (by omega)
  have g1 := zlc_g (X := X) (i := i) (k := 1) hi (by omega)
  have e2 : w32 ((i : Int) + 2) = ((i + 2 : Nat) : Int) := zlc_w (k := 2) hi hl (by omega)
  have g2 := zlc_g (X := X) (i := i) (k := 2) hi (by omega)
  have e6 : w32 ((i : Int) + 6) = ((i + 6 : Nat) : Int) := by unfold w32; omega
  refine ⟨rf, ?_, q4⟩
  rw [zb_law_33_22]
  simp only [if_true, if_false, Option.bind_some, Option.bind, Option.toList, List.cons_append, List.nil_append, zite0, zite1, zite01, znn, ite_not, true_or, or_true, true_and, and_true, e1, g1, e2, g2, zk_1 hL, zk_135 hL, Int.toNat_natCast, q1, zb_law_911, q2, zb_law_925, zcmp_eq, zb_law_1671, e6]
  exact q3
theorem zlc_23 (hL : zLay L) (hA : zA_23 X L) (hX : ∀ j, zint ((X 0).2 j)) (hl : (X 0).1 ≤ 3072) (hi : i + 6 ≤ (X 0).1) (hn : n < 100000) (ho : zSOK n S) (hx : zRX I S) (hm : zRM I S) (hloop : zLoopOK X L (n + 1) (i + 6)) : ∃ rf : zMem, zgo X (zcal X zP 40) zc_law 33 [some (.inr (.inr (.inr 0))), some (.inr (.inr (.inl 1))), some (.inr (.inr (.inl 135))), some (.inl (i : Int))] [.inl 23] (I, L) = some (some (.inl 1), rf) ∧ rf.2 = L := by
  obtain ⟨z, S', h1, h2, h3⟩ := hA n   S ho hn
  obtain ⟨I1, q1, r1, f1⟩ := h1 I hx
  obtain ⟨I2, q2, r2, f2⟩ := h2 I1 (zRM_row f1 hm)
  obtain ⟨rf, q3, q4⟩ := hloop I2 S' h3 (zRX_row h3 f2 r1) r2
  have e6 : w32 ((i : Int) + 6) = ((i + 6 : Nat) : Int) := by unfold w32; omega
  refine ⟨rf, ?_, q4⟩
  rw [zb_law_33_23]
  simp only [if_true, if_false, Option.bind_some, Option.bind, Option.toList, List.cons_append, List.nil_append, zite0, zite1, zite01, znn, ite_not, true_or, or_true, true_and, and_true, zk_1 hL, zk_135 hL, Int.toNat_natCast, q1, zb_law_934, q2, zb_law_938, zcmp_eq, zb_law_1671, e6]
  exact q3
theorem zlc_24 (hL : zLay L) (hA : zA_24 X L) (hX : ∀ j, zint ((X 0).2 j)) (hl : (X 0).1 ≤ 3072) (hi : i + 6 ≤ (X 0).1) (hn : n < 100000) (ho : zSOK n S) (hx : zRX I S) (hm : zRM I S) (hloop : zLoopOK X L (n + 1) (i + 6)) : ∃ rf : zMem, zgo X (zcal X zP 40) zc_law 33 [some (.inr (.inr (.inr 0))), some (.inr (.inr (.inl 1))), some (.inr (.inr (.inl 135))), some (.inl (i : Int))] [.inl 24] (I, L) = some (some (.inl 1), rf) ∧ rf.2 = L := by
  obtain ⟨z, S', h1, h2, h3⟩ := hA n _ (hX (i + 1)) S ho hn
  obtain ⟨I1, q1, r1, f1⟩ := h1 I hx
  obtain ⟨I2, q2, r2, f2⟩ := h2 I1 (zRM_row f1 hm)
  obtain ⟨rf, q3, q4⟩ := hloop I2 S' h3 (zRX_row h3 f2 r1) r2
  have e1 : w32 ((i : Int) + 1) = ((i + 1 : Nat) : Int) := zlc_w (k := 1) hi hl (by omega)
  have g1 := zlc_g (X := X) (i := i) (k := 1) hi (by omega)
  have e6 : w32 ((i : Int) + 6) = ((i + 6 : Nat) : Int) := by unfold w32; omega
  refine ⟨rf, ?_, q4⟩
  rw [zb_law_33_24]
  simp only [if_true, if_false, Option.bind_some, Option.bind, Option.toList, List.cons_append, List.nil_append, zite0, zite1, zite01, znn, ite_not, true_or, or_true, true_and, and_true, e1, g1, zk_1 hL, zk_135 hL, Int.toNat_natCast, q1, zb_law_952, q2, zb_law_961, zcmp_eq, zb_law_1671, e6]
  exact q3
theorem zlc_25 (hL : zLay L) (hA : zA_25 X L) (hX : ∀ j, zint ((X 0).2 j)) (hl : (X 0).1 ≤ 3072) (hi : i + 6 ≤ (X 0).1) (hn : n < 100000) (ho : zSOK n S) (hx : zRX I S) (hm : zRM I S) (hloop : zLoopOK X L (n + 1) (i + 6)) : ∃ rf : zMem, zgo X (zcal X zP 40) zc_law 33 [some (.inr (.inr (.inr 0))), some (.inr (.inr (.inl 1))), some (.inr (.inr (.inl 135))), some (.inl (i : Int))] [.inl 25] (I, L) = some (some (.inl 1), rf) ∧ rf.2 = L := by
  obtain ⟨z, S', h1, h2, h3⟩ := hA n _ _ _ (hX (i + 1)) (hX (i + 2)) (hX (i + 3)) S ho hn
  obtain ⟨I1, q1, r1, f1⟩ := h1 I hx
  obtain ⟨I2, q2, r2, f2⟩ := h2 I1 (zRM_row f1 hm)
  obtain ⟨rf, q3, q4⟩ := hloop I2 S' h3 (zRX_row h3 f2 r1) r2
  have e1 : w32 ((i : Int) + 1) = ((i + 1 : Nat) : Int) := zlc_w (k := 1) hi hl (by omega)
  have g1 := zlc_g (X := X) (i := i) (k := 1) hi (by omega)
  have e2 : w32 ((i : Int) + 2) = ((i + 2 : Nat) : Int) := zlc_w (k := 2) hi hl (by omega)
  have g2 := zlc_g (X := X) (i := i) (k := 2) hi (by omega)
  have e3 : w32 ((i : Int) + 3) = ((i + 3 : Nat) : Int) := zlc_w (k := 3) hi hl (by omega)
  have g3 := zlc_g (X := X) (i := i) (k := 3) hi (by omega)
  have e6 : w32 ((i : Int) + 6) = ((i + 6 : Nat) : Int) := by unfold w32; omega
  refine ⟨rf, ?_, q4⟩
  rw [zb_law_33_25]
  simp only [if_true, if_false, Option.bind_some, Option.bind, Option.toList, List.cons_append, List.nil_append, zite0, zite1, zite01, znn, ite_not, true_or, or_true, true_and, and_true, e1, g1, e2, g2, e3, g3, zk_1 hL, zk_135 hL, Int.toNat_natCast, q1, zb_law_985, q2, zb_law_1004, zcmp_eq, zb_law_1671, e6]
  exact q3
theorem zlc_26 (hL : zLay L) (hA : zA_26 X L) (hX : ∀ j, zint ((X 0).2 j)) (hl : (X 0).1 ≤ 3072) (hi : i + 6 ≤ (X 0).1) (hn : n < 100000) (ho : zSOK n S) (hx : zRX I S) (hm : zRM I S) (hloop : zLoopOK X L (n + 1) (i + 6)) : ∃ rf : zMem, zgo X (zcal X zP 40) zc_law 33 [some (.inr (.inr (.inr 0))), some (.inr (.inr (.inl 1))), some (.inr (.inr (.inl 135))), some (.inl (i : Int))] [.inl 26] (I, L) = some (some (.inl 1), rf) ∧ rf.2 = L := by
  obtain ⟨z, S', h1, h2, h3⟩ := hA n _ _ (hX (i + 1)) (hX (i + 2)) S ho hn
  obtain ⟨I1, q1, r1, f1⟩ := h1 I hx
  obtain ⟨I2, q2, r2, f2⟩ := h2 I1 (zRM_row f1 hm)
  obtain ⟨rf, q3, q4⟩ := hloop I2 S' h3 (zRX_row h3 f2 r1) r2
  have e1 : w32 ((i : Int) + 1) = ((i + 1 : Nat) : Int) := zlc_w (k := 1) hi hl (by omega)
  have g1 := zlc_g (X := X) (i := i) (k := 1) hi (by omega)
  have e2 : w32 ((i : Int) + 2) = ((i + 2 : Nat) : Int) := zlc_w (k := 2) hi hl (by omega)
  have g2 := zlc_g (X := X) (i := i) (k := 2) hi (by omega)
  have e6 : w32 ((i : Int) + 6) = ((i + 6 : Nat) : Int) := by unfold w32; omega
  refine ⟨rf, ?_, q4⟩
  rw [zb_law_33_26]
  simp only [if_true, if_false, Option.bind_some, Option.bind, Option.toList, List.cons_append, List.nil_append, zite0, zite1, zite01, znn, ite_not, true_or, or_true, true_and, and_true, e1, g1, e2, g2, zk_1 hL, zk_135 hL, Int.toNat_natCast, q1, zb_law_1023, q2, zb_law_1037, zcmp_eq, zb_law_1671, e6]
  exact q3
theorem zlc_27 (hL : zLay L) (hA : zA_27 X L) (hX : ∀ j, zint ((X 0).2 j)) (hl : (X 0).1 ≤ 3072) (hi : i + 6 ≤ (X 0).1) (hn : n < 100000) (ho : zSOK n S) (hx : zRX I S) (hm : zRM I S) (hloop : zLoopOK X L (n + 1) (i + 6)) : ∃ rf : zMem, zgo X (zcal X zP 40) zc_law 33 [some (.inr (.inr (.inr 0))), some (.inr (.inr (.inl 1))), some (.inr (.inr (.inl 135))), some (.inl (i : Int))] [.inl 27] (I, L) = some (some (.inl 1), rf) ∧ rf.2 = L := by
  obtain ⟨z, S', h1, h2, h3⟩ := hA n _ _ (hX (i + 1)) (hX (i + 2)) S ho hn
  obtain ⟨I1, q1, r1, f1⟩ := h1 I hx
  obtain ⟨I2, q2, r2, f2⟩ := h2 I1 (zRM_row f1 hm)
  obtain ⟨rf, q3, q4⟩ := hloop I2 S' h3 (zRX_row h3 f2 r1) r2
  have e1 : w32 ((i : Int) + 1) = ((i + 1 : Nat) : Int) := zlc_w (k := 1) hi hl (by omega)
  have g1 := zlc_g (X := X) (i := i) (k := 1) hi (by omega)
  have e2 : w32 ((i : Int) + 2) = ((i + 2 : Nat) : Int) := zlc_w (k := 2) hi hl (by omega)
  have g2 := zlc_g (X := X) (i := i) (k := 2) hi (by omega)
  have e6 : w32 ((i : Int) + 6) = ((i + 6 : Nat) : Int) := by unfold w32; omega
  refine ⟨rf, ?_, q4⟩
  rw [zb_law_33_27]
  simp only [if_true, if_false, Option.bind_some, Option.bind, Option.toList, List.cons_append, List.nil_append, zite0, zite1, zite01, znn, ite_not, true_or, or_true, true_and, and_true, e1, g1, e2, g2, zk_1 hL, zk_135 hL, Int.toNat_natCast, q1, zb_law_1056, q2, zb_law_1070, zcmp_eq, zb_law_1671, e6]
  exact q3
theorem zlc_28 (hL : zLay L) (hA : zA_28 X L) (hX : ∀ j, zint ((X 0).2 j)) (hl : (X 0).1 ≤ 3072) (hi : i + 6 ≤ (X 0).1) (hn : n < 100000) (ho : zSOK n S) (hx : zRX I S) (hm : zRM I S) (hloop : zLoopOK X L (n + 1) (i + 6)) : ∃ rf : zMem, zgo X (zcal X zP 40) zc_law 33 [some (.inr (.inr (.inr 0))), some (.inr (.inr (.inl 1))), some (.inr (.inr (.inl 135))), some (.inl (i : Int))] [.inl 28] (I, L) = some (some (.inl 1), rf) ∧ rf.2 = L := by
  obtain ⟨z, S', h1, h2, h3⟩ := hA n _ _ (hX (i + 1)) (hX (i + 2)) S ho hn
  obtain ⟨I1, q1, r1, f1⟩ := h1 I hx
  obtain ⟨I2, q2, r2, f2⟩ := h2 I1 (zRM_row f1 hm)
  obtain ⟨rf, q3, q4⟩ := hloop I2 S' h3 (zRX_row h3 f2 r1) r2
  have e1 : w32 ((i : Int) + 1) = ((i + 1 : Nat) : Int) := zlc_w (k := 1) hi hl (by omega)
  have g1 := zlc_g (X := X) (i := i) (k := 1) hi (by omega)
  have e2 : w32 ((i : Int) + 2) = ((i + 2 : Nat) : Int) := zlc_w (k := 2) hi hl (by omega)
  have g2 := zlc_g (X := X) (i := i) (k := 2) hi (by omega)
  have e6 : w32 ((i : Int) + 6) = ((i + 6 : Nat) : Int) := by unfold w32; omega
  refine ⟨rf, ?_, q4⟩
  rw [zb_law_33_28]
  simp only [if_true, if_false, Option.bind_some, Option.bind, Option.toList, List.cons_append, List.nil_append, zite0, zite1, zite01, znn, ite_not, true_or, or_true, true_and, and_true, e1, g1, e2, g2, zk_1 hL, zk_135 hL, Int.toNat_natCast, q1, zb_law_1089, q2, zb_law_1103, zcmp_eq, zb_law_1671, e6]
  exact q3
theorem zlc_29 (hL : zLay L) (hA : zA_29 X L) (hX : ∀ j, zint ((X 0).2 j)) (hl : (X 0).1 ≤ 3072) (hi : i + 6 ≤ (X 0).1) (hn : n < 100000) (ho : zSOK n S) (hx : zRX I S) (hm : zRM I S) (hloop : zLoopOK X L (n + 1) (i + 6)) : ∃ rf : zMem, zgo X (zcal X zP 40) zc_law 33 [some (.inr (.inr (.inr 0))), some (.inr (.inr (.inl 1))), some (.inr (.inr (.inl 135))), some (.inl (i : Int))] [.inl 29] (I, L) = some (some (.inl 1), rf) ∧ rf.2 = L := by
  obtain ⟨z, S', h1, h2, h3⟩ := hA n _ _ (hX (i + 1)) (hX (i + 2)) S ho hn
  obtain ⟨I1, q1, r1, f1⟩ := h1 I hx
  obtain ⟨I2, q2, r2, f2⟩ := h2 I1 (zRM_row f1 hm)
  obtain ⟨rf, q3, q4⟩ := hloop I2 S' h3 (zRX_row h3 f2 r1) r2
  have e1 : w32 ((i : Int) + 1) = ((i + 1 : Nat) : Int) := zlc_w (k := 1) hi hl (by omega)
  have g1 := zlc_g (X := X) (i := i) (k := 1) hi (by omega)
  have e2 : w32 ((i : Int) + 2) = ((i + 2 : Nat) : Int) := zlc_w (k := 2) hi hl (by omega)
  have g2 := zlc_g (X := X) (i := i) (k := 2) hi (by omega)
  have e6 : w32 ((i : Int) + 6) = ((i + 6 : Nat) : Int) := by unfold w32; omega
  refine ⟨rf, ?_, q4⟩
  rw [zb_law_33_29]
  simp only [if_true, if_false, Option.bind_some, Option.bind, Option.toList, List.cons_append, List.nil_append, zite0, zite1, zite01, znn, ite_not, true_or, or_true, true_and, and_true, e1, g1, e2, g2, zk_1 hL, zk_135 hL, Int.toNat_natCast, q1, zb_law_1122, q2, zb_law_1136, zcmp_eq, zb_law_1671, e6]
  exact q3
theorem zlc_30 (hL : zLay L) (hA : zA_30 X L) (hX : ∀ j, zint ((X 0).2 j)) (hl : (X 0).1 ≤ 3072) (hi : i + 6 ≤ (X 0).1) (hn : n < 100000) (ho : zSOK n S) (hx : zRX I S) (hm : zRM I S) (hloop : zLoopOK X L (n + 1) (i + 6)) : ∃ rf : zMem, zgo X (zcal X zP 40) zc_law 33 [some (.inr (.inr (.inr 0))), some (.inr (.inr (.inl 1))), some (.inr (.inr (.inl 135))), some (.inl (i : Int))] [.inl 30] (I, L) = some (some (.inl 1), rf) ∧ rf.2 = L := by
  obtain ⟨z, S', h1, h2, h3⟩ := hA n _ _ (hX (i + 1)) (hX (i + 2)) S ho hn
  obtain ⟨I1, q1, r1, f1⟩ := h1 I hx
  obtain ⟨I2, q2, r2, f2⟩ := h2 I1 (zRM_row f1 hm)
  obtain ⟨rf, q3, q4⟩ := hloop I2 S' h3 (zRX_row h3 f2 r1) r2
  have e1 : w32 ((i : Int) + 1) = ((i + 1 : Nat) : Int) := zlc_w (k := 1) hi hl (by omega)
  have g1 := zlc_g (X := X) (i := i) (k := 1) hi (by omega)
  have e2 : w32 ((i : Int) + 2) = ((i + 2 : Nat) : Int) := zlc_w (k := 2) hi hl (by omega)
  have g2 := zlc_g (X := X) (i := i) (k := 2) hi (by omega)
  have e6 : w32 ((i : Int) + 6) = ((i + 6 : Nat) : Int) := by unfold w32; omega
  refine ⟨rf, ?_, q4⟩
  rw [zb_law_33_30]
  simp only [if_true, if_false, Option.bind_some, Option.bind, Option.toList, List.cons_append, List.nil_append, zite0, zite1, zite01, znn, ite_not, true_or, or_true, true_and, and_true, e1, g1, e2, g2, zk_1 hL, zk_135 hL, Int.toNat_natCast, q1, zb_law_1155, q2, zb_law_1169, zcmp_eq, zb_law_1671, e6]
  exact q3
theorem zlc_31 (hL : zLay L) (hA : zA_31 X L) (hX : ∀ j, zint ((X 0).2 j)) (hl : (X 0).1 ≤ 3072) (hi : i + 6 ≤ (X 0).1) (hn : n < 100000) (ho : zSOK n S) (hx : zRX I S) (hm : zRM I S) (hloop : zLoopOK X L (n + 1) (i + 6)) : ∃ rf : zMem, zgo X (zcal X zP 40) zc_law 33 [some (.inr (.inr (.inr 0))), some (.inr (.inr (.inl 1))), some (.inr (.inr (.inl 135))), some (.inl (i : Int))] [.inl 31] (I, L) = some (some (.inl 1), rf) ∧ rf.2 = L := by
  obtain ⟨z, S', h1, h2, h3⟩ := hA n _ (hX (i + 1)) S ho hn
  obtain ⟨I1, q1, r1, f1⟩ := h1 I hx
  obtain ⟨I2, q2, r2, f2⟩ := h2 I1 (zRM_row f1 hm)
  obtain ⟨rf, q3, q4⟩ := hloop I2 S' h3 (zRX_row h3 f2 r1) r2
  have e1 : w32 ((i : Int) + 1) = ((i + 1 : Nat) : Int) := zlc_w (k := 1) hi hl (by omega)
  have g1 := zlc_g (X := X) (i := i) (k := 1) hi (by omega)
  have e6 : w32 ((i : Int) + 6) = ((i + 6 : Nat) : Int) := by unfold w32; omega
  refine ⟨rf, ?_, q4⟩
  rw [zb_law_33_31]
  simp only [if_true, if_false, Option.bind_some, Option.bind, Option.toList, List.cons_append, List.nil_append, zite0, zite1, zite01, znn, ite_not, true_or, or_true, true_and, and_true, e1, g1, zk_1 hL, zk_135 hL, Int.toNat_natCast, q1, zb_law_1183, q2, zb_law_1192, zcmp_eq, zb_law_1671, e6]
  exact q3
theorem zlc_32 (hL : zLay L) (hA : zA_32 X L) (hX : ∀ j, zint ((X 0).2 j)) (hl : (X 0).1 ≤ 3072) (hi : i + 6 ≤ (X 0).1) (hn : n < 100000) (ho : zSOK n S) (hx : zRX I S) (hm : zRM I S) (hloop : zLoopOK X L (n + 1) (i + 6)) : ∃ rf : zMem, zgo X (zcal X zP 40) zc_law 33 [some (.inr (.inr (.inr 0))), some (.inr (.inr (.inl 1))), some (.inr (.inr (.inl 135))), some (.inl (i : Int))] [.inl 32] (I, L) = some (some (.inl 1), rf) ∧ rf.2 = L := by
  obtain ⟨z, S', h1, h2, h3⟩ := hA n _ (hX (i + 1)) S ho hn
  obtain ⟨I1, q1, r1, f1⟩ := h1 I hx
  obtain ⟨I2, q2, r2, f2⟩ := h2 I1 (zRM_row f1 hm)
  obtain ⟨rf, q3, q4⟩ := hloop I2 S' h3 (zRX_row h3 f2 r1) r2
  have e1 : w32 ((i : Int) + 1) = ((i + 1 : Nat) : Int) := zlc_w (k := 1) hi hl (by omega)
  have g1 := zlc_g (X := X) (i := i) (k := 1) hi (by omega)
  have e6 : w32 ((i : Int) + 6) = ((i + 6 : Nat) : Int) := by unfold w32; omega
  refine ⟨rf, ?_, q4⟩
  rw [zb_law_33_32]
  simp only [if_true, if_false, Option.bind_some, Option.bind, Option.toList, List.cons_append, List.nil_append, zite0, zite1, zite01, znn, ite_not, true_or, or_true, true_and, and_true, e1, g1, zk_1 hL, zk_135 hL, Int.toNat_natCast, q1, zb_law_1206, q2, zb_law_1215, zcmp_eq, zb_law_1671, e6]
  exact q3
theorem zlc_33 (hL : zLay L) (hA : zA_33 X L) (hX : ∀ j, zint ((X 0).2 j)) (hl : (X 0).1 ≤ 3072) (hi : i + 6 ≤ (X 0).1) (hn : n < 100000) (ho : zSOK n S) (hx : zRX I S) (hm : zRM I S) (hloop : zLoopOK X L (n + 1) (i + 6)) : ∃ rf : zMem, zgo X (zcal X zP 40) zc_law 33 [some (.inr (.inr (.inr 0))), some (.inr (.inr (.inl 1))), some (.inr (.inr (.inl 135))), some (.inl (i : Int))] [.inl 33] (I, L) = some (some (.inl 1), rf) ∧ rf.2 = L := by
  obtain ⟨z, S', h1, h2, h3⟩ := hA n _ (hX (i + 1)) S ho hn
  obtain ⟨I1, q1, r1, f1⟩ := h1 I hx
  obtain ⟨I2, q2, r2, f2⟩ := h2 I1 (zRM_row f1 hm)
  obtain ⟨rf, q3, q4⟩ := hloop I2 S' h3 (zRX_row h3 f2 r1) r2
  have e1 : w32 ((i : Int) + 1) = ((i + 1 : Nat) : Int) := zlc_w (k := 1) hi hl (by omega)
  have g1 := zlc_g (X := X) (i := i) (k := 1) hi (by omega)
  have e6 : w32 ((i : Int) + 6) = ((i + 6 : Nat) : Int) := by unfold w32; omega
  refine ⟨rf, ?_, q4⟩
  rw [zb_law_33_33]
  simp only [if_true, if_false, Option.bind_some, Option.bind, Option.toList, List.cons_append, List.nil_append, zite0, zite1, zite01, znn, ite_not, true_or, or_true, true_and, and_true, e1, g1, zk_1 hL, zk_135 hL, Int.toNat_natCast, q1, zb_law_1229, q2, zb_law_1238, zcmp_eq, zb_law_1671, e6]
  exact q3
theorem zlc_34 (hL : zLay L) (hA : zA_34 X L) (hX : ∀ j, zint ((X 0).2 j)) (hl : (X 0).1 ≤ 3072) (hi : i + 6 ≤ (X 0).1) (hn : n < 100000) (ho : zSOK n S) (hx : zRX I S) (hm : zRM I S) (hloop : zLoopOK X L (n + 1) (i + 6)) : ∃ rf : zMem, zgo X (zcal X zP 40) zc_law 33 [some (.inr (.inr (.inr 0))), some (.inr (.inr (.inl 1))), some (.inr (.inr (.inl 135))), some (.inl (i : Int))] [.inl 34] (I, L) = some (some (.inl 1), rf) ∧ rf.2 = L := by
  obtain ⟨z, S', h1, h2, h3⟩ := hA n _ (hX (i + 1)) S ho hn
  obtain ⟨I1, q1, r1, f1⟩ := h1 I hx
  obtain ⟨I2, q2, r2, f2⟩ := h2 I1 (zRM_row f1 hm)
  obtain ⟨rf, q3, q4⟩ := hloop I2 S' h3 (zRX_row h3 f2 r1) r2
  have e1 : w32 ((i : Int) + 1) = ((i + 1 : Nat) : Int) := zlc_w (k := 1) hi hl (by omega)
  have g1 := zlc_g (X := X) (i := i) (k := 1) hi (by omega)
  have e6 : w32 ((i : Int) + 6) = ((i + 6 : Nat) : Int) := by unfold w32; omega
  refine ⟨rf, ?_, q4⟩
  rw [zb_law_33_34]
  simp only [if_true, if_false, Option.bind_some, Option.bind, Option.toList, List.cons_append, List.nil_append, zite0, zite1, zite01, znn, ite_not, true_or, or_true, true_and, and_true, e1, g1, zk_1 hL, zk_135 hL, Int.toNat_natCast, q1, zb_law_1252, q2, zb_law_1261, zcmp_eq, zb_law_1671, e6]
  exact q3
theorem zlc_35 (hL : zLay L) (hA : zA_35 X L) (hX : ∀ j, zint ((X 0).2 j)) (hl : (X 0).1 ≤ 3072) (hi : i + 6 ≤ (X 0).1) (hn : n < 100000) (ho : zSOK n S) (hx : zRX I S) (hm : zRM I S) (hloop : zLoopOK X L (n + 1) (i + 6)) : ∃ rf : zMem, zgo X (zcal X zP 40) zc_law 33 [some (.inr (.inr (.inr 0))), some (.inr (.inr (.inl 1))), some (.inr (.inr (.inl 135))), some (.inl (i : Int))] [.inl 35] (I, L) = some (some (.inl 1), rf) ∧ rf.2 = L := by
  obtain ⟨z, S', h1, h2, h3⟩ := hA n _ _ (hX (i + 1)) (hX (i + 2)) S ho hn
  obtain ⟨I1, q1, r1, f1⟩ := h1 I hx
  obtain ⟨I2, q2, r2, f2⟩ := h2 I1 (zRM_row f1 hm)
  obtain ⟨rf, q3, q4⟩ := hloop I2 S' h3 (zRX_row h3 f2 r1) r2
  have e1 : w32 ((i : Int) + 1) = ((i + 1 : Nat) : Int) := zlc_w (k := 1) hi hl (by omega)
  have g1 := zlc_g (X := X) (i := i) (k := 1) hi (by omega)
  have e2 : w32 ((i : Int) + 2) = ((i + 2 : Nat) : Int) := zlc_w (k := 2) hi hl (by omega)
  have g2 := zlc_g (X := X) (i := i) (k := 2) hi (by omega)
  have e6 : w32 ((i : Int) + 6) = ((i + 6 : Nat) : Int) := by unfold w32; omega
  refine ⟨rf, ?_, q4⟩
  rw [zb_law_33_35]
  simp only [if_true, if_false, Option.bind_some, Option.bind, Option.toList, List.cons_append, List.nil_append, zite0, zite1, zite01, znn, ite_not, true_or, or_true, true_and, and_true, e1, g1, e2, g2, zk_1 hL, zk_135 hL, Int.toNat_natCast, q1, zb_law_1280, q2, zb_law_1294, zcmp_eq, zb_law_1671, e6]
  exact q3
theorem zlc_36 (hL : zLay L) (hA : zA_36 X L) (hX : ∀ j, zint ((X 0).2 j)) (hl : (X 0).1 ≤ 3072) (hi : i + 6 ≤ (X 0).1) (hn : n < 100000) (ho : zSOK n S) (hx : zRX I S) (hm : zRM I S) (hloop : zLoopOK X L (n + 1) (i + 6)) : ∃ rf : zMem, zgo X (zcal X zP 40) zc_law 33 [some (.inr (.inr (.inr 0))), some (.inr (.inr (.inl 1))), some (.inr (.inr (.inl 135))), some (.inl (i : Int))] [.inl 36] (I, L) = some (some (.inl 1), rf) ∧ rf.2 = L := by
  obtain ⟨z, S', h1, h2, h3⟩ := hA n   S ho hn
  obtain ⟨I1, q1, r1, f1⟩ := h1 I hx
  obtain ⟨I2, q2, r2, f2⟩ := h2 I1 (zRM_row f1 hm)
  obtain ⟨rf, q3, q4⟩ := hloop I2 S' h3 (zRX_row h3 f2 r1) r2
  have e6 : w32 ((i : Int) + 6) = ((i + 6 : Nat) : Int) := by unfold w32; omega
  refine ⟨rf, ?_, q4⟩
  rw [zb_law_33_36]
  simp only [if_true, if_false, Option.bind_some, Option.bind, Option.toList, List.cons_append, List.nil_append, zite0, zite1, zite01, znn, ite_not, true_or, or_true, true_and, and_true, zk_1 hL, zk_135 hL, Int.toNat_natCast, q1, zb_law_1303, q2, zb_law_1307, zcmp_eq, zb_law_1671, e6]
  exact q3
theorem zlc_37 (hL : zLay L) (hA : zA_37 X L) (hX : ∀ j, zint ((X 0).2 j)) (hl : (X 0).1 ≤ 3072) (hi : i + 6 ≤ (X 0).1) (hn : n < 100000) (ho : zSOK n S) (hx : zRX I S) (hm : zRM I S) (hloop : zLoopOK X L (n + 1) (i + 6)) : ∃ rf : zMem, zgo X (zcal X zP 40) zc_law 33 [some (.inr (.inr (.inr 0))), some (.inr (.inr (.inl 1))), some (.inr (.inr (.inl 135))), some (.inl (i : Int))] [.inl 37] (I, L) = some (some (.inl 1), rf) ∧ rf.2 = L := by
  obtain ⟨z, S', h1, h2, h3⟩ := hA n   S ho hn
  obtain ⟨I1, q1, r1, f1⟩ := h1 I hx
  obtain ⟨I2, q2, r2, f2⟩ := h2 I1 (zRM_row f1 hm)
  obtain ⟨rf, q3, q4⟩ := hloop I2 S' h3 (zRX_row h3 f2 r1) r2
  have e6 : w32 ((i : Int) + 6) = ((i + 6 : Nat) : Int) := by unfold w32; omega
  refine ⟨rf, ?_, q4⟩
  rw [zb_law_33_37]
  simp only [if_true, if_false, Option.bind_some, Option.bind, Option.toList, List.cons_append, List.nil_append, zite0, zite1, zite01, znn, ite_not, true_or, or_true, true_and, and_true, zk_1 hL, zk_135 hL, Int.toNat_natCast, q1, zb_law_1316, q2, zb_law_1320, zcmp_eq, zb_law_1671, e6]
  exact q3
theorem zlc_38 (hL : zLay L) (hA : zA_38 X L) (hX : ∀ j, zint ((X 0).2 j)) (hl : (X 0).1 ≤ 3072) (hi : i + 6 ≤ (X 0).1) (hn : n < 100000) (ho : zSOK n S) (hx : zRX I S) (hm : zRM I S) (hloop : zLoopOK X L (n + 1) (i + 6)) : ∃ rf : zMem, zgo X (zcal X zP 40) zc_law 33 [some (.inr (.inr (.inr 0))), some (.inr (.inr (.inl 1))), some (.inr (.inr (.inl 135))), some (.inl (i : Int))] [.inl 38] (I, L) = some (some (.inl 1), rf) ∧ rf.2 = L := by
  obtain ⟨z, S', h1, h2, h3⟩ := hA n _ _ (hX (i + 1)) (hX (i + 2)) S ho hn
  obtain ⟨I1, q1, r1, f1⟩ := h1 I hx
  obtain ⟨I2, q2, r2, f2⟩ := h2 I1 (zRM_row f1 hm)
  obtain ⟨rf, q3, q4⟩ := hloop I2 S' h3 (zRX_row h3 f2 r1) r2
  have e1 : w32 ((i : Int) + 1) = ((i + 1 : Nat) : Int) := zlc_w (k := 1) hi hl (by omega)
  have g1 := zlc_g (X := X) (i := i) (k := 1) hi (by omega)
  have e2 : w32 ((i : Int) + 2) = ((i + 2 : Nat) : Int) := zlc_w (k := 2) hi hl (by omega)
  have g2 := zlc_g (X := X) (i := i) (k := 2) hi (by omega)
  have e6 : w32 ((i : Int) + 6) = ((i + 6 : Nat) : Int) := by unfold w32; omega
  refine ⟨rf, ?_, q4⟩
  rw [zb_law_33_38]
  simp only [if_true, if_false, Option.bind_some, Option.bind, Option.toList, List.cons_append, List.nil_append, zite0, zite1, zite01, znn, ite_not, true_or, or_true, true_and, and_true, e1, g1, e2, g2, zk_1 hL, zk_135 hL, Int.toNat_natCast, q1, zb_law_1339, q2, zb_law_1353, zcmp_eq, zb_law_1671, e6]
  exact q3
theorem zlc_39 (hL : zLay L) (hA : zA_39 X L) (hX : ∀ j, zint ((X 0).2 j)) (hl : (X 0).1 ≤ 3072) (hi : i + 6 ≤ (X 0).1) (hn : n < 100000) (ho : zSOK n S) (hx : zRX I S) (hm : zRM I S) (hloop : zLoopOK X L (n + 1) (i + 6)) : ∃ rf : zMem, zgo X (zcal X zP 40) zc_law 33 [some (.inr (.inr (.inr 0))), some (.inr (.inr (.inl 1))), some (.inr (.inr (.inl 135))), some (.inl (i : Int))] [.inl 39] (I, L) = some (some (.inl 1), rf) ∧ rf.2 = L := by
  obtain ⟨z, S', h1, h2, h3⟩ := hA n _ _ (hX (i + 1)) (hX (i + 2)) S ho hn
  obtain ⟨I1, q1, r1, f1⟩ := h1 I hx
  obtain ⟨I2, q2, r2, f2⟩ := h2 I1 (zRM_row f1 hm)
  obtain ⟨rf, q3, q4⟩ := hloop I2 S' h3 (zRX_row h3 f2 r1) r2
  have e1 : w32 ((i : Int) + 1) = ((i + 1 : Nat) : Int) := zlc_w (k := 1) hi hl (by omega)
  have g1 := zlc_g (X := X) (i := i) (k := 1) hi (by omega)
  have e2 : w32 ((i : Int) + 2) = ((i + 2 : Nat) : Int) := zlc_w (k := 2) hi hl (by omega)
  have g2 := zlc_g (X := X) (i := i) (k := 2) hi (by omega)
  have e6 : w32 ((i : Int) + 6) = ((i + 6 : Nat) : Int) := by unfold w32; omega
  refine ⟨rf, ?_, q4⟩
  rw [zb_law_33_39]
  simp only [if_true, if_false, Option.bind_some, Option.bind, Option.toList, List.cons_append, List.nil_append, zite0, zite1, zite01, znn, ite_not, true_or, or_true, true_and, and_true, e1, g1, e2, g2, zk_1 hL, zk_135 hL, Int.toNat_natCast, q1, zb_law_1372, q2, zb_law_1386, zcmp_eq, zb_law_1671, e6]
  exact q3
theorem zlc_40 (hL : zLay L) (hA : zA_40 X L) (hX : ∀ j, zint ((X 0).2 j)) (hl : (X 0).1 ≤ 3072) (hi : i + 6 ≤ (X 0).1) (hn : n < 100000) (ho : zSOK n S) (hx : zRX I S) (hm : zRM I S) (hloop : zLoopOK X L (n + 1) (i + 6)) : ∃ rf : zMem, zgo X (zcal X zP 40) zc_law 33 [some (.inr (.inr (.inr 0))), some (.inr (.inr (.inl 1))), some (.inr (.inr (.inl 135))), some (.inl (i : Int))] [.inl 40] (I, L) = some (some (.inl 1), rf) ∧ rf.2 = L := by
  obtain ⟨z, S', h1, h2, h3⟩ := hA n _ _ _ (hX (i + 1)) (hX (i + 2)) (hX (i + 3)) S ho hn
  obtain ⟨I1, q1, r1, f1⟩ := h1 I hx
  obtain ⟨I2, q2, r2, f2⟩ := h2 I1 (zRM_row f1 hm)
  obtain ⟨rf, q3, q4⟩ := hloop I2 S' h3 (zRX_row h3 f2 r1) r2
  have e1 : w32 ((i : Int) + 1) = ((i + 1 : Nat) : Int) := zlc_w (k := 1) hi hl (by omega)
  have g1 := zlc_g (X := X) (i := i) (k := 1) hi (by omega)
  have e2 : w32 ((i : Int) + 2) = ((i + 2 : Nat) : Int) := zlc_w (k := 2) hi hl (by omega)
  have g2 := zlc_g (X := X) (i := i) (k := 2) hi (by omega)
  have e3 : w32 ((i : Int) + 3) = ((i + 3 : Nat) : Int) := zlc_w (k := 3) hi hl (by omega)
  have g3 := zlc_g (X := X) (i := i) (k := 3) hi (by omega)
  have e6 : w32 ((i : Int) + 6) = ((i + 6 : Nat) : Int) := by unfold w32; omega
  refine ⟨rf, ?_, q4⟩
  rw [zb_law_33_40]
  simp only [if_true, if_false, Option.bind_some, Option.bind, Option.toList, List.cons_append, List.nil_append, zite0, zite1, zite01, znn, ite_not, true_or, or_true, true_and, and_true, e1, g1, e2, g2, e3, g3, zk_1 hL, zk_135 hL, Int.toNat_natCast, q1, zb_law_1410, q2, zb_law_1429, zcmp_eq, zb_law_1671, e6]
  exact q3
theorem zlc_41 (hL : zLay L) (hA : zA_41 X L) (hX : ∀ j, zint ((X 0).2 j)) (hl : (X 0).1 ≤ 3072) (hi : i + 6 ≤ (X 0).1) (hn : n < 100000) (ho : zSOK n S) (hx : zRX I S) (hm : zRM I S) (hloop : zLoopOK X L (n + 1) (i + 6)) : ∃ rf : zMem, zgo X (zcal X zP 40) zc_law 33 [some (.inr (.inr (.inr 0))), some (.inr (.inr (.inl 1))), some (.inr (.inr (.inl 135))), some (.inl (i : Int))] [.inl 41] (I, L) = some (some (.inl 1), rf) ∧ rf.2 = L := by
  obtain ⟨z, S', h1, h2, h3⟩ := hA n _ _ _ (hX (i + 1)) (hX (i + 2)) (hX (i + 3)) S ho hn
  obtain ⟨I1, q1, r1, f1⟩ := h1 I hx
  obtain ⟨I2, q2, r2, f2⟩ := h2 I1 (zRM_row f1 hm)
  obtain ⟨rf, q3, q4⟩ := hloop I2 S' h3 (zRX_row h3 f2 r1) r2
  have e1 : w32 ((i : Int) + 1) = ((i + 1 : Nat) : Int) := zlc_w (k := 1) hi hl (by omega)
  have g1 := zlc_g (X := X) (i := i) (k := 1) hi (by omega)
  have e2 : w32 ((i : Int) + 2) = ((i + 2 : Nat) : Int) := zlc_w (k := 2) hi hl (by omega)
  have g2 := zlc_g (X := X) (i := i) (k := 2) hi (by omega)
  have e3 : w32 ((i : Int) + 3) = ((i + 3 : Nat) : Int) := zlc_w (k := 3) hi hl (by omega)
  have g3 := zlc_g (X := X) (i := i) (k := 3) hi (by omega)
  have e6 : w32 ((i : Int) + 6) = ((i + 6 : Nat) : Int) := by unfold w32; omega
  refine ⟨rf, ?_, q4⟩
  rw [zb_law_33_41]
  simp only [if_true, if_false, Option.bind_some, Option.bind, Option.toList, List.cons_append, List.nil_append, zite0, zite1, zite01, znn, ite_not, true_or, or_true, true_and, and_true, e1, g1, e2, g2, e3, g3, zk_1 hL, zk_135 hL, Int.toNat_natCast, q1, zb_law_1453, q2, zb_law_1472, zcmp_eq, zb_law_1671, e6]
  exact q3
theorem zlc_42 (hL : zLay L) (hA : zA_42 X L) (hX : ∀ j, zint ((X 0).2 j)) (hl : (X 0).1 ≤ 3072) (hi : i + 6 ≤ (X 0).1) (hn : n < 100000) (ho : zSOK n S) (hx : zRX I S) (hm : zRM I S) (hloop : zLoopOK X L (n + 1) (i + 6)) : ∃ rf : zMem, zgo X (zcal X zP 40) zc_law 33 [some (.inr (.inr (.inr 0))), some (.inr (.inr (.inl 1))), some (.inr (.inr (.inl 135))), some (.inl (i : Int))] [.inl 42] (I, L) = some (some (.inl 1), rf) ∧ rf.2 = L := by
  obtain ⟨z, S', h1, h2, h3⟩ := hA n _ _ _ _ _ (hX (i + 1)) (hX (i + 2)) (hX (i + 3)) (hX (i + 4)) (hX (i + 5)) S ho hn
  obtain ⟨I1, q1, r1, f1⟩ := h1 I hx
  obtain ⟨I2, q2, r2, f2⟩ := h2 I1 (zRM_row f1 hm)
  obtain ⟨rf, q3, q4⟩ := hloop I2 S' h3 (zRX_row h3 f2 r1) r2
  have e1 : w32 ((i : Int) + 1) = ((i + 1 : Nat) : Int) := zlc_w (k := 1) hi hl (by omega)
  have g1 := zlc_g (X := X) (i := i) (k := 1) hi (by omega)
  have e2 : w32 ((i : Int) + 2) = ((i + 2 : Nat) : Int) := zlc_w (k := 2) hi hl (by omega)
  have g2 := zlc_g (X := X) (i := i) (k := 2) hi (by omega)
  have e3 : w32 ((i : Int) + 3) = ((i + 3 : Nat) : Int) := zlc_w (k := 3) hi hl (by omega)
  have g3 := zlc_g (X := X) (i := i) (k := 3) hi (by omega)
  have e4 : w32 ((i : Int) + 4) = ((i + 4 : Nat) : Int) := zlc_w (k := 4) hi hl (by omega)
  have g4 := zlc_g (X := X) (i := i) (k := 4) hi (by omega)
  have e5 : w32 ((i : Int) + 5) = ((i + 5 : Nat) : Int) := zlc_w (k := 5) hi hl (by omega)
  have g5 := zlc_g (X := X) (i := i) (k := 5) hi (by omega)
  have e6 : w32 ((i : Int) + 6) = ((i + 6 : Nat) : Int) := by unfold w32; omega
  refine ⟨rf, ?_, q4⟩
  rw [zb_law_33_42]
  simp only [if_true, if_false, Option.bind_some, Option.bind, Option.toList, List.cons_append, List.nil_append, zite0, zite1, zite01, znn, ite_not, true_or, or_true, true_and, and_true, e1, g1, e2, g2, e3, g3, e4, g4, e5, g5, zk_1 hL, zk_135 hL, Int.toNat_natCast, q1, zb_law_1506, q2, zb_law_1535, zcmp_eq, zb_law_1671, e6]
  exact q3
theorem zlc_43 (hL : zLay L) (hA : zA_43 X L) (hX : ∀ j, zint ((X 0).2 j)) (hl : (X 0).1 ≤ 3072) (hi : i + 6 ≤ (X 0).1) (hn : n < 100000) (ho : zSOK n S) (hx : zRX I S) (hm : zRM I S) (hloop : zLoopOK X L (n + 1) (i + 6)) : ∃ rf : zMem, zgo X (zcal X zP 40) zc_law 33 [some (.inr (.inr (.inr 0))), some (.inr (.inr (.inl 1))), some (.inr (.inr (.inl 135))), some (.inl (i : Int))] [.inl 43] (I, L) = some (some (.inl 1), rf) ∧ rf.2 = L := by
  obtain ⟨z, S', h1, h2, h3⟩ := hA n _ (hX (i + 1)) S ho hn
  obtain ⟨I1, q1, r1, f1⟩ := h1 I hx
  obtain ⟨I2, q2, r2, f2⟩ := h2 I1 (zRM_row f1 hm)
  obtain ⟨rf, q3, q4⟩ := hloop I2 S' h3 (zRX_row h3 f2 r1) r2
  have e1 : w32 ((i : Int) + 1) = ((i + 1 : Nat) : Int) := zlc_w (k := 1) hi hl (by omega)
  have g1 := zlc_g (X := X) (i := i) (k := 1) hi (by omega)
  have e6 : w32 ((i : Int) + 6) = ((i + 6 : Nat) : Int) := by unfold w32; omega
  refine ⟨rf, ?_, q4⟩
  rw [zb_law_33_43]
  simp only [if_true, if_false, Option.bind_some, Option.bind, Option.toList, List.cons_append, List.nil_append, zite0, zite1, zite01, znn, ite_not, true_or, or_true, true_and, and_true, e1, g1, zk_1 hL, zk_135 hL, Int.toNat_natCast, q1, zb_law_1549, q2, zb_law_1558, zcmp_eq, zb_law_1671, e6]
  exact q3
theorem zlc_44 (hL : zLay L) (hA : zA_44 X L) (hX : ∀ j, zint ((X 0).2 j)) (hl : (X 0).1 ≤ 3072) (hi : i + 6 ≤ (X 0).1) (hn : n < 100000) (ho : zSOK n S) (hx : zRX I S) (hm : zRM I S) (hloop : zLoopOK X L (n + 1) (i + 6)) : ∃ rf : zMem, zgo X (zcal X zP 40) zc_law 33 [some (.inr (.inr (.inr 0))), some (.inr (.inr (.inl 1))), some (.inr (.inr (.inl 135))), some (.inl (i : Int))] [.inl 44] (I, L) = some (some (.inl 1), rf) ∧ rf.2 = L := by
  obtain ⟨z, S', h1, h2, h3⟩ := hA n _ (hX (i + 1)) S ho hn
  obtain ⟨I1, q1, r1, f1⟩ := h1 I hx
  obtain ⟨I2, q2, r2, f2⟩ := h2 I1 (zRM_row f1 hm)
  obtain ⟨rf, q3, q4⟩ := hloop I2 S' h3 (zRX_row h3 f2 r1) r2
  have e1 : w32 ((i : Int) + 1) = ((i + 1 : Nat) : Int) := zlc_w (k := 1) hi hl (by omega)
  have g1 := zlc_g (X := X) (i := i) (k := 1) hi (by omega)
  have e6 : w32 ((i : Int) + 6) = ((i + 6 : Nat) : Int) := by unfold w32; omega
  refine ⟨rf, ?_, q4⟩
  rw [zb_law_33_44]
  simp only [if_true, if_false, Option.bind_some, Option.bind, Option.toList, List.cons_append, List.nil_append, zite0, zite1, zite01, znn, ite_not, true_or, or_true, true_and, and_true, e1, g1, zk_1 hL, zk_135 hL, Int.toNat_natCast, q1, zb_law_1572, q2, zb_law_1581, zcmp_eq, zb_law_1671, e6]
  exact q3
theorem zlc_45 (hL : zLay L) (hA : zA_45 X L) (hX : ∀ j, zint ((X 0).2 j)) (hl : (X 0).1 ≤ 3072) (hi : i + 6 ≤ (X 0).1) (hn : n < 100000) (ho : zSOK n S) (hx : zRX I S) (hm : zRM I S) (hloop : zLoopOK X L (n + 1) (i + 6)) : ∃ rf : zMem, zgo X (zcal X zP 40) zc_law 33 [some (.inr (.inr (.inr 0))), some (.inr (.inr (.inl 1))), some (.inr (.inr (.inl 135))), some (.inl (i : Int))] [.inl 45] (I, L) = some (some (.inl 1), rf) ∧ rf.2 = L := by
  obtain ⟨z, S', h1, h2, h3⟩ := hA n   S ho hn
  obtain ⟨I1, q1, r1, f1⟩ := h1 I hx
  obtain ⟨I2, q2, r2, f2⟩ := h2 I1 (zRM_row f1 hm)
  obtain ⟨rf, q3, q4⟩ := hloop I2 S' h3 (zRX_row h3 f2 r1) r2
  have e6 : w32 ((i : Int) + 6) = ((i + 6 : Nat) : Int) := by unfold w32; omega
  refine ⟨rf, ?_, q4⟩
  rw [zb_law_33_45]
  simp only [if_true, if_false, Option.bind_some, Option.bind, Option.toList, List.cons_append, List.nil_append, zite0, zite1, zite01, znn, ite_not, true_or, or_true, true_and, and_true, zk_1 hL, zk_135 hL, Int.toNat_natCast, q1, zb_law_1590, q2, zb_law_1594, zcmp_eq, zb_law_1671, e6]
  exact q3
theorem zlc_46 (hL : zLay L) (hA : zA_46 X L) (hX : ∀ j, zint ((X 0).2 j)) (hl : (X 0).1 ≤ 3072) (hi : i + 6 ≤ (X 0).1) (hn : n < 100000) (ho : zSOK n S) (hx : zRX I S) (hm : zRM I S) (hloop : zLoopOK X L (n + 1) (i + 6)) : ∃ rf : zMem, zgo X (zcal X zP 40) zc_law 33 [some (.inr (.inr (.inr 0))), some (.inr (.inr (.inl 1))), some (.inr (.inr (.inl 135))), some (.inl (i : Int))] [.inl 46] (I, L) = some (some (.inl 1), rf) ∧ rf.2 = L := by
  obtain ⟨z, S', h1, h2, h3⟩ := hA n   S ho hn
  obtain ⟨I1, q1, r1, f1⟩ := h1 I hx
  obtain ⟨I2, q2, r2, f2⟩ := h2 I1 (zRM_row f1 hm)
  obtain ⟨rf, q3, q4⟩ := hloop I2 S' h3 (zRX_row h3 f2 r1) r2
  have e6 : w32 ((i : Int) + 6) = ((i + 6 : Nat) : Int) := by unfold w32; omega
  refine ⟨rf, ?_, q4⟩
  rw [zb_law_33_46]
  simp only [if_true, if_false, Option.bind_some, Option.bind, Option.toList, List.cons_append, List.nil_append, zite0, zite1, zite01, znn, ite_not, true_or, or_true, true_and, and_true, zk_1 hL, zk_135 hL, Int.toNat_natCast, q1, zb_law_1603, q2, zb_law_1607, zcmp_eq, zb_law_1671, e6]
  exact q3
theorem zlc_47 (hL : zLay L) (hA : zA_47 X L) (hX : ∀ j, zint ((X 0).2 j)) (hl : (X 0).1 ≤ 3072) (hi : i + 6 ≤ (X 0).1) (hn : n < 100000) (ho : zSOK n S) (hx : zRX I S) (hm : zRM I S) (hloop : zLoopOK X L (n + 1) (i + 6)) : ∃ rf : zMem, zgo X (zcal X zP 40) zc_law 33 [some (.inr (.inr (.inr 0))), some (.inr (.inr (.inl 1))), some (.inr (.inr (.inl 135))), some (.inl (i : Int))] [.inl 47] (I, L) = some (some (.inl 1), rf) ∧ rf.2 = L := by
  obtain ⟨z, S', h1, h2, h3⟩ := hA n   S ho hn
  obtain ⟨I1, q1, r1, f1⟩ := h1 I hx
  obtain ⟨I2, q2, r2, f2⟩ := h2 I1 (zRM_row f1 hm)
  obtain ⟨rf, q3, q4⟩ := hloop I2 S' h3 (zRX_row h3 f2 r1) r2
  have e6 : w32 ((i : Int) + 6) = ((i + 6 : Nat) : Int) := by unfold w32; omega
  refine ⟨rf, ?_, q4⟩
  rw [zb_law_33_47]
  simp only [if_true, if_false, Option.bind_some, Option.bind, Option.toList, List.cons_append, List.nil_append, zite0, zite1, zite01, znn, ite_not, true_or, or_true, true_and, and_true, zk_1 hL, zk_135 hL, Int.toNat_natCast, q1, zb_law_1616, q2, zb_law_1620, zcmp_eq, zb_law_1671, e6]
  exact q3
theorem zlc_48 (hL : zLay L) (hA : zA_48 X L) (hX : ∀ j, zint ((X 0).2 j)) (hl : (X 0).1 ≤ 3072) (hi : i + 6 ≤ (X 0).1) (hn : n < 100000) (ho : zSOK n S) (hx : zRX I S) (hm : zRM I S) (hloop : zLoopOK X L (n + 1) (i + 6)) : ∃ rf : zMem, zgo X (zcal X zP 40) zc_law 33 [some (.inr (.inr (.inr 0))), some (.inr (.inr (.inl 1))), some (.inr (.inr (.inl 135))), some (.inl (i : Int))] [.inl 48] (I, L) = some (some (.inl 1), rf) ∧ rf.2 = L := by
  obtain ⟨z, S', h1, h2, h3⟩ := hA n _ (hX (i + 1)) S ho hn
  obtain ⟨I1, q1, r1, f1⟩ := h1 I hx
  obtain ⟨I2, q2, r2, f2⟩ := h2 I1 (zRM_row f1 hm)
  obtain ⟨rf, q3, q4⟩ := hloop I2 S' h3 (zRX_row h3 f2 r1) r2
  have e1 : w32 ((i : Int) + 1) = ((i + 1 : Nat) : Int) := zlc_w (k := 1) hi hl (by omega)
  have g1 := zlc_g (X := X) (i := i) (k := 1) hi (by omega)
  have e6 : w32 ((i : Int) + 6) = ((i + 6 : Nat) : Int) := by unfold w32; omega
  refine ⟨rf, ?_, q4⟩
  rw [zb_law_33_48]
  simp only [if_true, if_false, Option.bind_some, Option.bind, Option.toList, List.cons_append, List.nil_append, zite0, zite1, zite01, znn, ite_not, true_or, or_true, true_and, and_true, e1, g1, zk_1 hL, zk_135 hL, Int.toNat_natCast, q1, zb_law_1634, q2, zb_law_1643, zcmp_eq, zb_law_1671, e6]
  exact q3
theorem zlc_49 (hL : zLay L) (hA : zA_49 X L) (hX : ∀ j, zint ((X 0).2 j)) (hl : (X 0).1 ≤ 3072) (hi : i + 6 ≤ (X 0).1) (hn : n < 100000) (ho : zSOK n S) (hx : zRX I S) (hm : zRM I S) (hloop : zLoopOK X L (n + 1) (i + 6)) : ∃ rf : zMem, zgo X (zcal X zP 40) zc_law 33 [some (.inr (.inr (.inr 0))), some (.inr (.inr (.inl 1))), some (.inr (.inr (.inl 135))), some (.inl (i : Int))] [.inl 49] (I, L) = some (some (.inl 1), rf) ∧ rf.2 = L := by
  obtain ⟨z, S', h1, h2, h3⟩ := hA n _ (hX (i + 1)) S ho hn
  obtain ⟨I1, q1, r1, f1⟩ := h1 I hx
  obtain ⟨I2, q2, r2, f2⟩ := h2 I1 (zRM_row f1 hm)
  obtain ⟨rf, q3, q4⟩ := hloop I2 S' h3 (zRX_row h3 f2 r1) r2
  have e1 : w32 ((i : Int) + 1) = ((i + 1 : Nat) : Int) := zlc_w (k := 1) hi hl (by omega)
  have g1 := zlc_g (X := X) (i := i) (k := 1) hi (by omega)
  have e6 : w32 ((i : Int) + 6) = ((i + 6 : Nat) : Int) := by unfold w32; omega
  refine ⟨rf, ?_, q4⟩
  rw [zb_law_33_49]
  simp only [if_true, if_false, Option.bind_some, Option.bind, Option.toList, List.cons_append, List.nil_append, zite0, zite1, zite01, znn, ite_not, true_or, or_true, true_and, and_true, e1, g1, zk_1 hL, zk_135 hL, Int.toNat_natCast, q1, zb_law_1657, q2, zb_law_1666, zcmp_eq, zb_law_1671, e6]
  exact q3
theorem zlc_d (hl : (X 0).1 ≤ 3072) (hi : i + 6 ≤ (X 0).1) (hn : n < 100000) (ho : zSOK n S) (hx : zRX I S) (hm : zRM I S) (hloop : zLoopOK X L (n + 1) (i + 6)) {v : Int} (hv : v < 0 ∨ 49 < v) : ∃ rf : zMem, zgo X (zcal X zP 40) zc_law 33 [some (.inr (.inr (.inr 0))), some (.inr (.inr (.inl 1))), some (.inr (.inr (.inl 135))), some (.inl (i : Int))] [.inl v] (I, L) = some (some (.inl 1), rf) ∧ rf.2 = L := by
  obtain ⟨rf, q3, q4⟩ := hloop I S (zSOK_up ho hn) hx hm
  have e6 : w32 ((i : Int) + 6) = ((i + 6 : Nat) : Int) := by unfold w32; omega
  refine ⟨rf, ?_, q4⟩
  rw [zb_law_33_d hv, zb_law_1671, e6]
  exact q3
theorem zlc_all (hL : zLay L) (hA : zAll X L) (hX : ∀ j, zint ((X 0).2 j)) (hl : (X 0).1 ≤ 3072) : ∀ (m n i : Nat), n + m ≤ 1000 → (X 0).1 < i + 6 * m + 6 → i ≤ 10000 → zLoopOK X L n i := by
  intro m
  induction m with
  | zero =>
    intro n i hn hm hi I S ho hx hm2
    refine ⟨(I, L), ?_, rfl⟩
    rw [zb_law_18, if_pos (by omega), if_pos (by unfold w32; omega)]
  | succ m ih =>
    intro n i hn hm hi I S ho hx hm2
    by_cases hf : (X 0).1 < i + 6
    · refine ⟨(I, L), ?_, rfl⟩
      rw [zb_law_18, if_pos (by omega), if_pos (by unfold w32; omega)]
    · have hloop := ih (n + 1) (i + 6) (by omega) (by omega) (by omega)
      rw [zb_law_18, if_pos (by omega), if_neg (by unfold w32; omega), if_pos ⟨by omega, by omega, by omega⟩]
      generalize zand ((X 0).2 (i : Int).toNat) 63 = v
      by_cases hv : v < 0 ∨ 49 < v
      · exact zlc_d hl (by omega) (by omega) ho hx hm2 hloop hv
      · obtain ⟨A0, A1, A2, A3, A4, A5, A6, A7, A8, A9, A10, A11, A12, A13, A14, A15, A16, A17, A18, A19, A20, A21, A22, A23, A24, A25, A26, A27, A28, A29, A30, A31, A32, A33, A34, A35, A36, A37, A38, A39, A40, A41, A42, A43, A44, A45, A46, A47, A48, A49⟩ := hA
        rcases (show v = 0 ∨ v = 1 ∨ v = 2 ∨ v = 3 ∨ v = 4 ∨ v = 5 ∨ v = 6 ∨ v = 7 ∨ v = 8 ∨ v = 9 ∨ v = 10 ∨ v = 11 ∨ v = 12 ∨ v = 13 ∨ v = 14 ∨ v = 15 ∨ v = 16 ∨ v = 17 ∨ v = 18 ∨ v = 19 ∨ v = 20 ∨ v = 21 ∨ v = 22 ∨ v = 23 ∨ v = 24 ∨ v = 25 ∨ v = 26 ∨ v = 27 ∨ v = 28 ∨ v = 29 ∨ v = 30 ∨ v = 31 ∨ v = 32 ∨ v = 33 ∨ v = 34 ∨ v = 35 ∨ v = 36 ∨ v = 37 ∨ v = 38 ∨ v = 39 ∨ v = 40 ∨ v = 41 ∨ v = 42 ∨ v = 43 ∨ v = 44 ∨ v = 45 ∨ v = 46 ∨ v = 47 ∨ v = 48 ∨ v = 49 by omega) with rfl | rfl | rfl | rfl | rfl | rfl | rfl | rfl | rfl | rfl | rfl | rfl | rfl | rfl | rfl | rfl | rfl | rfl | rfl | rfl | rfl | rfl | rfl | rfl | rfl | rfl | rfl | rfl | rfl | rfl | rfl | rfl | rfl | rfl | rfl | rfl | rfl | rfl | rfl | rfl | rfl | rfl | rfl | rfl | rfl | rfl | rfl | rfl | rfl | rfl
        · exact zlc_0 hL A0 hX hl (by omega) (by omega) ho hx hm2 hloop
        · exact zlc_1 hL A1 hX hl (by omega) (by omega) ho hx hm2 hloop
        · exact zlc_2 hL A2 hX hl (by omega) (by omega) ho hx hm2 hloop
        · exact zlc_3 hL A3 hX hl (by omega) (by omega) ho hx hm2 hloop
        · exact zlc_4 hL A4 hX hl (by omega) (by omega) ho hx hm2 hloop
        · exact zlc_5 hL A5 hX hl (by omega) (by omega) ho hx hm2 hloop
        · exact zlc_6 hL A6 hX hl (by omega) (by omega) ho hx hm2 hloop
        · exact zlc_7 hL A7 hX hl (by omega) (by omega) ho hx hm2 hloop
        · exact zlc_8 hL A8 hX hl (by omega) (by omega) ho hx hm2 hloop
        · exact zlc_9 hL A9 hX hl (by omega) (by omega) ho hx hm2 hloop
        · exact zlc_10 hL A10 hX hl (by omega) (by omega) ho hx hm2 hloop
        · exact zlc_11 hL A11 hX hl (by omega) (by omega) ho hx hm2 hloop
        · exact zlc_12 hL A12 hX hl (by omega) (by omega) ho hx hm2 hloop
        · exact zlc_13 hL A13 hX hl (by omega) (by omega) ho hx hm2 hloop
        · exact zlc_14 hL A14 hX hl (by omega) (by omega) ho hx hm2 hloop
        · exact zlc_15 hL A15 hX hl (by omega) (by omega) ho hx hm2 hloop
        · exact zlc_16 hL A16 hX hl (by omega) (by omega) ho hx hm2 hloop
        · exact zlc_17 hL A17 hX hl (by omega) (by omega) ho hx hm2 hloop
        · exact zlc_18 hL A18 hX hl (by omega) (by omega) ho hx hm2 hloop
        · exact zlc_19 hL A19 hX hl (by omega) (by omega) ho hx hm2 hloop
        · exact zlc_20 hL A20 hX hl (by omega) (by omega) ho hx hm2 hloop
        · exact zlc_21 hL A21 hX hl (by omega) (by omega) ho hx hm2 hloop
        · exact zlc_22 hL A22 hX hl (by omega) (by omega) ho hx hm2 hloop
        · exact zlc_23 hL A23 hX hl (by omega) (by omega) ho hx hm2 hloop
        · exact zlc_24 hL A24 hX hl (by omega) (by omega) ho hx hm2 hloop
        · exact zlc_25 hL A25 hX hl (by omega) (by omega) ho hx hm2 hloop
        · exact zlc_26 hL A26 hX hl (by omega) (by omega) ho hx hm2 hloop
        · exact zlc_27 hL A27 hX hl (by omega) (by omega) ho hx hm2 hloop
        · exact zlc_28 hL A28 hX hl (by omega) (by omega) ho hx hm2 hloop
        · exact zlc_29 hL A29 hX hl (by omega) (by omega) ho hx hm2 hloop
        · exact zlc_30 hL A30 hX hl (by omega) (by omega) ho hx hm2 hloop
        · exact zlc_31 hL A31 hX hl (by omega) (by omega) ho hx hm2 hloop
        · exact zlc_32 hL A32 hX hl (by omega) (by omega) ho hx hm2 hloop
        · exact zlc_33 hL A33 hX hl (by omega) (by omega) ho hx hm2 hloop
        · exact zlc_34 hL A34 hX hl (by omega) (by omega) ho hx hm2 hloop
        · exact zlc_35 hL A35 hX hl (by omega) (by omega) ho hx hm2 hloop
        · exact zlc_36 hL A36 hX hl (by omega) (by omega) ho hx hm2 hloop
        · exact zlc_37 hL A37 hX hl (by omega) (by omega) ho hx hm2 hloop
        · exact zlc_38 hL A38 hX hl (by omega) (by omega) ho hx hm2 hloop
        · exact zlc_39 hL A39 hX hl (by omega) (by omega) ho hx hm2 hloop
        · exact zlc_40 hL A40 hX hl (by omega) (by omega) ho hx hm2 hloop
        · exact zlc_41 hL A41 hX hl (by omega) (by omega) ho hx hm2 hloop
        · exact zlc_42 hL A42 hX hl (by omega) (by omega) ho hx hm2 hloop
        · exact zlc_43 hL A43 hX hl (by omega) (by omega) ho hx hm2 hloop
        · exact zlc_44 hL A44 hX hl (by omega) (by omega) ho hx hm2 hloop
        · exact zlc_45 hL A45 hX hl (by omega) (by omega) ho hx hm2 hloop
        · exact zlc_46 hL A46 hX hl (by omega) (by omega) ho hx hm2 hloop
        · exact zlc_47 hL A47 hX hl (by omega) (by omega) ho hx hm2 hloop
        · exact zlc_48 hL A48 hX hl (by omega) (by omega) ho hx hm2 hloop
        · exact zlc_49 hL A49 hX hl (by omega) (by omega) ho hx hm2 hloop
end
