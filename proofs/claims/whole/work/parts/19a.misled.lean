/-! MISLED: what it is. -/
section
variable {α : Type}
theorem zfor_add {f : Nat → α → α} : ∀ (a b i : Nat) (q : α), zfor f (a + b) i q = zfor f b (i + a) (zfor f a i q) := by
  intro a
  induction a with
  | zero => intro b i q; rw [Nat.zero_add]; rfl
  | succ a ih =>
    intro b i q
    rw [show a + 1 + b = (a + b) + 1 by omega, zfor_s, zfor_s, ih b (i + 1) (f i q), show i + 1 + a = i + (a + 1) by omega]
theorem zfor_cg {f g : Nat → α → α} : ∀ (m i : Nat) (q : α), (∀ x, i ≤ x → x < i + m → ∀ q, f x q = g x q) → zfor f m i q = zfor g m i q := by
  intro m
  induction m with
  | zero => intro i q _; rfl
  | succ m ih =>
    intro i q h
    rw [zfor_s, zfor_s, h i (Nat.le_refl _) (by omega)]
    exact ih _ _ fun x h1 h2 => h x (by omega) (by omega)
/-- the worth of a row: its digits are the steps -/
def zvv (P : Nat) (f : Nat → α → α) (v : α → Int) : Nat → α → Nat → Int
  | 0, q, _ => v q
  | m + 1, q, x => zvv P f v m (f (x / P ^ m % P) q) x
end
/-- a better row -/
def zuq (g : Nat → Int) (x : Nat) (q : Int × Nat) : Int × Nat := if g x < q.1 then (g x, x) else q
theorem zup_stop {g : Nat → Int} (hg : ∀ x, 0 ≤ g x) : ∀ (m i : Nat) (q : Int × Nat), q.1 ≤ 0 → zfor (zuq g) m i q = q := by
  intro m
  induction m with
  | zero => intro i q _; rfl
  | succ m ih =>
    intro i q h
    have h2 := hg i
    have e : zuq g i q = q := if_neg (by omega)
    rw [zfor_s, e]
    exact ih _ _ h
theorem zup_ok {g : Nat → Int} {N : Nat} (hg : ∀ x, 0 ≤ g x) : ∀ (m i : Nat) (q : Int × Nat), i + m ≤ N → 0 ≤ q.1 → q.2 < N → (0 ≤ (zfor (zuq g) m i q).1 ∧ (zfor (zuq g) m i q).1 ≤ q.1) ∧ (zfor (zuq g) m i q).2 < N := by
  intro m
  induction m with
  | zero => intro i q _ h1 h2; exact ⟨⟨h1, Int.le_refl _⟩, h2⟩
  | succ m ih =>
    intro i q h0 h1 h2
    rw [zfor_s]
    by_cases c : g i < q.1
    · have e : zuq g i q = (g i, i) := if_pos c
      rw [e]
      obtain ⟨⟨a1, a2⟩, a3⟩ := ih (i + 1) (g i, i) (by omega) (hg i) (by show i < N; omega)
      have a2 : (zfor (zuq g) m (i + 1) (g i, i)).1 ≤ g i := a2
      exact ⟨⟨a1, by omega⟩, a3⟩
    · have e : zuq g i q = q := if_neg c
      rw [e]
      exact ih (i + 1) q (by omega) h1 h2
/-- the pairs of places, and where one stands -/
def zplc (c : Nat) : List (Nat × Nat) := (List.range c).flatMap fun a => (List.range c).filterMap fun b => if a < b then some (a, b) else none
def zpj (c j : Nat) : Nat × Nat := (zplc c).getD j (0, 1)
def zjj (c a b : Nat) : Nat := a * (2 * c - a - 1) / 2 + (b - a - 1)
def zPP (c : Nat) : Nat := c * (c - 1) / 2
theorem zjj_p {c a b : Nat} (hc : c < 7) (h1 : a < b) (h2 : b < c) : zpj c (zjj c a b) = (a, b) ∧ zjj c a b < zPP c := ((by decide +kernel : ∀ c : Nat, c < 7 → ∀ a : Nat, a < c → ∀ b : Nat, b < c → b ≤ a ∨ (zpj c (zjj c a b) = (a, b) ∧ zjj c a b < zPP c)) c hc a (by omega) b h2).resolve_left (by omega)
theorem zjj_n {c a : Nat} (hc : c < 7) (h1 : a < c) : zjj c a c = zjj c (a + 1) (a + 2) := (by decide +kernel : ∀ c : Nat, c < 7 → ∀ a : Nat, a < c → zjj c a c = zjj c (a + 1) (a + 2)) c hc a h1
theorem zjj_e {c : Nat} (hc : c < 7) : zjj c c (c + 1) = zPP c := (by decide +kernel : ∀ c : Nat, c < 7 → zjj c c (c + 1) = zPP c) c hc
theorem zjj_le {c a b : Nat} (hc : c < 7) (h1 : a < c) (h2 : b ≤ c) : zjj c a b ≤ zPP c := ((by decide +kernel : ∀ c : Nat, c < 7 → ∀ a : Nat, a < c → ∀ b : Nat, b < c + 1 → zjj c a b ≤ zPP c) c hc a h1 b (by omega))
theorem zjj_0 {c : Nat} : zjj c 0 1 = 0 := by
  unfold zjj
  rw [Nat.zero_mul]
theorem zjj_s {c a b : Nat} (h : a < b) : zjj c a (b + 1) = zjj c a b + 1 := by
  unfold zjj
  generalize a * (2 * c - a - 1) / 2 = y
  omega
theorem zpj_in {c j : Nat} (hc : c < 7) (hj : j < zPP c) : (zpj c j).1 < (zpj c j).2 ∧ (zpj c j).2 < c := by
  have h15 : zPP c ≤ 15 := (by decide +kernel : ∀ c : Nat, c < 7 → zPP c ≤ 15) c hc
  exact ((by decide +kernel : ∀ c : Nat, c < 7 → ∀ j : Nat, j < 15 → zPP c ≤ j ∨ ((zpj c j).1 < (zpj c j).2 ∧ (zpj c j).2 < c)) c hc j (by omega)).resolve_left (by omega)
theorem zPP_in {c : Nat} (h1 : 3 ≤ c) (hc : c < 7) : 3 ≤ zPP c ∧ zPP c ≤ 15 := ((by decide +kernel : ∀ c : Nat, c < 7 → c < 3 ∨ (3 ≤ zPP c ∧ zPP c ≤ 15)) c hc).resolve_left (by omega)
theorem zPP_w {c m : Nat} (h1 : 3 ≤ c) (hc : c < 7) (hm : m ≤ 4) : 1 ≤ zPP c ^ m ∧ zPP c ^ m ≤ 50625 := ((by decide +kernel : ∀ c : Nat, c < 7 → ∀ m : Nat, m < 5 → c < 3 ∨ (1 ≤ zPP c ^ m ∧ zPP c ^ m ≤ 50625)) c hc m (by omega)).resolve_left (by omega)
/-- the code of a pair -/
def zcd (c j : Nat) : Int := 10 * ((zpj c j).1 : Int) + ((zpj c j).2 : Int)
/-- a pass more: weights and pea -/
def zstp (c : Nat) (k s : Int) (a b : Nat) (q : (Nat → Int) × Int) : (Nat → Int) × Int := (zsee (c : Int) (a : Int) (zlooks k (a : Int) (b : Int)) s q.1, zpea k (a : Int) (b : Int) q.2)
def zsj (c : Nat) (k s : Int) (j : Nat) (q : (Nat → Int) × Int) : (Nat → Int) × Int := zstp c k s (zpj c j).1 (zpj c j).2 q
def zvl (q : (Nat → Int) × Int) : Int := if q.2 < 0 then 0 else q.1 q.2.toNat
def zso (c k0 : Nat) (q : (Nat → Int) × Int) : Prop := zwOK (zB k0) q.1 ∧ (-1 ≤ q.2 ∧ q.2 < (c : Int)) ∧ ∀ p : Nat, c ≤ p → q.1 p = 0
theorem zso_s {c k0 a b : Nat} {k s : Int} {q : (Nat → Int) × Int} (hc : 3 ≤ c ∧ c < 7) (hs : 0 ≤ s ∧ s ≤ 10) (hk : k0 ≤ 17) (hab : a < b ∧ b < c) (h : zso c k0 q) : zso c (k0 + 1) (zstp c k s a b q) := by
  have h1 := zB_le (k := k0) (by omega)
  exact ⟨zsee_ok hs (by omega) h.1, zpea_in (by omega) (by omega) (by omega) h.2.1, fun p hp => zsee_hi (by omega)⟩
theorem zvl_ok {c k0 : Nat} {q : (Nat → Int) × Int} (hk : k0 ≤ 18) (h : zso c k0 q) : 0 ≤ zvl q ∧ zvl q ≤ zB k0 := by
  have h1 := zB_le hk
  unfold zvl
  split
  · omega
  · exact h.1 _
abbrev zVs (c : Nat) (k s : Int) (m : Nat) (q : (Nat → Int) × Int) (x : Nat) : Int := zvv (zPP c) (zsj c k s) zvl m q x
theorem zVs_ok {c : Nat} {k s : Int} (hc : 3 ≤ c ∧ c < 7) (hs : 0 ≤ s ∧ s ≤ 10) : ∀ (m k0 : Nat) (q : (Nat → Int) × Int) (x : Nat), k0 + m ≤ 18 → zso c k0 q → 0 ≤ zVs c k s m q x ∧ zVs c k s m q x ≤ zB (k0 + m) := by
  have hP := zPP_in hc.1 hc.2
  intro m
  induction m with
  | zero => intro k0 q x hk h; exact zvl_ok (by omega) h
  | succ m ih =>
    intro k0 q x hk h
    have hj := zpj_in hc.2 (Nat.mod_lt (x / zPP c ^ m) (show 0 < zPP c by omega))
    have h2 := ih (k0 + 1) _ x (by omega) (zso_s (k := k) hc hs (by omega) hj h)
    rw [show k0 + 1 + m = k0 + (m + 1) by omega] at h2
    exact h2
theorem zVs_s {c : Nat} {k s : Int} {m j pre x : Nat} {q : (Nat → Int) × Int} (hj : j < zPP c) (h1 : (pre * zPP c + j) * zPP c ^ m ≤ x) (h2 : x < (pre * zPP c + j) * zPP c ^ m + zPP c ^ m) : zVs c k s (m + 1) q x = zVs c k s m (zsj c k s j q) x := by
  have e1 : x / zPP c ^ m = pre * zPP c + j := Nat.div_eq_of_lt_le h1 (by rw [Nat.add_mul, Nat.one_mul]; exact h2)
  have e2 : x / zPP c ^ m % zPP c = j := by rw [e1, Nat.mul_comm, Nat.mul_add_mod, Nat.mod_eq_of_lt hj]
  show zvv (zPP c) (zsj c k s) zvl m (zsj c k s (x / zPP c ^ m % zPP c) q) x = _
  rw [e2]
/-- one block of the rows -/
theorem zup_b {c : Nat} {k s : Int} {m j pre r : Nat} {st : (Nat → Int) × Int} {q : Int × Nat} (hj : j < zPP c) : zfor (zuq (zVs c k s (m + 1) st)) (zPP c ^ m + r) ((pre * zPP c + j) * zPP c ^ m) q = zfor (zuq (zVs c k s (m + 1) st)) r ((pre * zPP c + (j + 1)) * zPP c ^ m) (zfor (zuq (zVs c k s m (zsj c k s j st))) (zPP c ^ m) ((pre * zPP c + j) * zPP c ^ m) q) := by
  have e1 : (pre * zPP c + j) * zPP c ^ m + zPP c ^ m = (pre * zPP c + (j + 1)) * zPP c ^ m := by
    rw [← Nat.add_assoc, Nat.add_mul (pre * zPP c + j) 1, Nat.one_mul]
  rw [zfor_add, e1]
  congr 1
  refine zfor_cg _ _ _ fun x h1 h2 q => ?_
  unfold zuq
  rw [zVs_s hj h1 h2]
/-- what was chosen -/
def zCs (c : Nat) (A : Nat → Int) (d r : Nat) : Prop := ∀ i, i < d → A i = zcd c (r / zPP c ^ (d - 1 - i) % zPP c)
theorem zCs_s {c d r j : Nat} {A A' : Nat → Int} (hj : j < zPP c) (h : zCs c A d r) (h1 : ∀ i, i < d → A' i = A i) (h2 : A' d = zcd c j) : zCs c A' (d + 1) (r * zPP c + j) := by
  intro i hi
  by_cases e : i = d
  · rw [e, h2, show d + 1 - 1 - d = 0 by omega, Nat.pow_zero, Nat.div_one, Nat.mul_comm, Nat.mul_add_mod, Nat.mod_eq_of_lt hj]
  · rw [h1 i (by omega), h i (by omega), show d + 1 - 1 - i = (d - 1 - i) + 1 by omega, Nat.pow_succ, Nat.mul_comm (zPP c ^ (d - 1 - i)) (zPP c), ← Nat.div_div_eq_div_mul, Nat.mul_comm r, Nat.mul_add_div (by omega), Nat.div_eq_of_lt hj, Nat.add_zero]
theorem zCs_c {c d r : Nat} {A A' : Nat → Int} (h : zCs c A d r) (h1 : ∀ i, i < d → A' i = A i) : zCs c A' d r := fun i hi => (h1 i hi).trans (h i hi)
