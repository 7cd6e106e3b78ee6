/-! MISLED: the class's search. -/
theorem zuq_ge {g : Nat → Int} (hg : ∀ x, 0 ≤ g x) {m i : Nat} {q : Int × Nat} (h : 0 ≤ q.1) : 0 ≤ (zfor (zuq g) m i q).1 := ((zup_ok (N := max (i + m) (q.2 + 1)) hg m i q (by omega) h (by omega)).1).1
def zSI (I : Nat → Nat → Int) (sz c n : Nat) (k s : Int) : Prop := I 2 0 = (c : Int) ∧ I 2 2 = (sz : Int) ∧ I 117 0 = k ∧ I 117 1 = s ∧ I 117 2 = (n : Int)
def zFr (I I' : Nat → Nat → Int) (sz dp ch : Nat) : Prop := (∀ a, (a < 86 + sz + dp ∨ (100 ≤ a ∧ a < 117) ∨ 121 ≤ a) → I' a = I a) ∧ (∀ j, j ≠ 3 → I' 117 j = I 117 j) ∧ ∀ j, j < ch → I' 118 j = I 118 j
theorem zFr_r {I : Nat → Nat → Int} {sz dp ch : Nat} : zFr I I sz dp ch := ⟨fun _ _ => rfl, fun _ _ => rfl, fun _ _ => rfl⟩
theorem zFr_t {I I1 I2 : Nat → Nat → Int} {sz dp dp' ch ch' : Nat} (hd : dp ≤ dp') (hc : ch ≤ ch') (h1 : zFr I I1 sz dp ch) (h2 : zFr I1 I2 sz dp' ch') : zFr I I2 sz dp ch :=
  ⟨fun a ha => (h2.1 a (by omega)).trans (h1.1 a ha), fun j hj => (h2.2.1 j hj).trans (h1.2.1 j hj), fun j hj => (h2.2.2 j (by omega)).trans (h1.2.2 j hj)⟩
theorem zSI_f {I I' : Nat → Nat → Int} {sz c n dp ch : Nat} {k s : Int} (h1 : zFr I I' sz dp ch) (h : zSI I sz c n k s) : zSI I' sz c n k s := by
  unfold zSI
  rw [h1.1 2 (by omega), h1.2.1 0 (by omega), h1.2.1 1 (by omega), h1.2.1 2 (by omega)]
  exact h
def zqI (I : Nat → Nat → Int) (c n : Nat) (q : Int × Nat) : Prop := I 117 3 = q.1 ∧ (q.1 < 1000000000000000 → zCs c (I 119) n q.2)
def zSk (C : zC) (L : zLt) (sz c n : Nat) (k s : Int) (m : Nat) : Prop := ∀ (dp pre : Nat) (st : (Nat → Int) × Int) (q : Int × Nat) (I : Nat → Nat → Int), dp + m = n → zSI I sz c n k s → zCs c (I 118) dp pre → zqI I c n q → 0 ≤ q.1 → zso c (sz + dp) st → (∀ p, p < 6 → I (85 + sz + dp) p = st.1 p) → ∃ I', C 28 [.inr (.inr (.inl 117)), .inr (.inr (.inl 2)), .inr (.inr (.inl 83)), .inl (dp : Int), .inl st.2] (I, L) = some (none, (I', L)) ∧ zqI I' c n (zfor (zuq (zVs c k s m st)) (zPP c ^ m) (pre * zPP c ^ m) q) ∧ zFr I I' sz dp dp
def zCh (C : zC) (L : zLt) (sz c n : Nat) (k s : Int) (m : Nat) : Prop := ∀ (dp pre a b : Nat) (st : (Nat → Int) × Int) (q : Int × Nat) (I : Nat → Nat → Int), dp + m + 1 = n → a < b → b < c → zSI I sz c n k s → zCs c (I 118) (dp + 1) pre → zqI I c n q → 0 ≤ q.1 → zso c (sz + dp) st → (∀ p, p < 6 → I (85 + sz + dp) p = st.1 p) → I 120 0 = k → I 120 1 = (a : Int) → I 120 2 = (b : Int) → ∃ I', C 29 [.inr (.inr (.inl 117)), .inr (.inr (.inl 2)), .inr (.inr (.inl 83)), .inl (dp : Int), .inl (zpea k (a : Int) (b : Int) st.2)] (I, L) = some (none, (I', L)) ∧ zqI I' c n (zfor (zuq (zVs c k s m (zstp c k s a b st))) (zPP c ^ m) (pre * zPP c ^ m) q) ∧ zFr I I' sz dp (dp + 1)
