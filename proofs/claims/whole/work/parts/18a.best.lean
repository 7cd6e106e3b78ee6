/-! PLAYERS: what a player brings at most. (purse, (stake, lost)) -/
abbrev zPl : Type := Int × (Int × Int)
def znx (w : Int) (q : zPl) : zPl := (if w = 0 then q.1 - zstk q.1 q.2.1 else q.1 + zstk q.1 q.2.1, (if w = 0 then zlower q.2.1 else zraise q.2.1, if w = 0 then q.2.2 + 1 else 0))
def zdl (w : Int) (q : zPl) : Int := if w = 0 then zstk q.1 q.2.1 else - zstk q.1 q.2.1
def zgn (be : Int) (q : zPl) : Int := zgone q.1 q.2.2 be
def zmx (w l : Int) : Int := if 0 < (if w < l then l else w) then (if w < l then l else w) else 0
/-- the most in so many rounds -/
def zmo (be : Int) : Nat → zPl → Int
  | 0, _ => 0
  | m + 1, q => if zgn be q = 0 then zmx (zmo be m (znx 1 q) + zdl 1 q) (zmo be m (znx 0 q) + zdl 0 q) else 0
theorem zmo_s {be : Int} {m : Nat} {q : zPl} : zmo be (m + 1) q = if zgn be q = 0 then zmx (zmo be m (znx 1 q) + zdl 1 q) (zmo be m (znx 0 q) + zdl 0 q) else 0 := rfl
def zqok (B : Int) (q : zPl) : Prop := (0 ≤ q.1 ∧ q.1 ≤ B) ∧ (1 ≤ q.2.1 ∧ q.2.1 ≤ 99) ∧ 0 ≤ q.2.2 ∧ q.2.2 ≤ B
theorem znx_ok {B w : Int} {q : zPl} (h : zqok B q) : zqok (B + 99) (znx w q) := by
  have h1 := zstk_ok h.1.1 h.2.1
  have h2 := zraise_ok h.2.1
  have h3 := zlower_ok h.2.1
  obtain ⟨a, b, c⟩ := h
  refine ⟨?_, ?_, ?_⟩
  · show 0 ≤ (if w = 0 then q.1 - zstk q.1 q.2.1 else q.1 + zstk q.1 q.2.1) ∧ (if w = 0 then q.1 - zstk q.1 q.2.1 else q.1 + zstk q.1 q.2.1) ≤ B + 99
    split <;> omega
  · show 1 ≤ (if w = 0 then zlower q.2.1 else zraise q.2.1) ∧ (if w = 0 then zlower q.2.1 else zraise q.2.1) ≤ 99
    split
    · exact h3
    · exact h2
  · show 0 ≤ (if w = 0 then q.2.2 + 1 else 0) ∧ (if w = 0 then q.2.2 + 1 else 0) ≤ B + 99
    split <;> omega
theorem zmx_ge {w l : Int} : 0 ≤ zmx w l ∧ w ≤ zmx w l ∧ l ≤ zmx w l := by
  unfold zmx
  by_cases c : w < l
  · rw [if_pos c]; split <;> omega
  · rw [if_neg c]; split <;> omega
theorem zmx_or {w l : Int} : zmx w l = 0 ∨ zmx w l = w ∨ zmx w l = l := by
  unfold zmx
  by_cases c : w < l
  · rw [if_pos c]
    by_cases c2 : 0 < l
    · rw [if_pos c2]; exact Or.inr (Or.inr rfl)
    · rw [if_neg c2]; exact Or.inl rfl
  · rw [if_neg c]
    by_cases c2 : 0 < w
    · rw [if_pos c2]; exact Or.inr (Or.inl rfl)
    · rw [if_neg c2]; exact Or.inl rfl
theorem zdl_ok {B w : Int} {q : zPl} (h : zqok B q) : -99 ≤ zdl w q ∧ zdl w q ≤ 99 := by
  have h1 := zstk_ok h.1.1 h.2.1
  unfold zdl
  split <;> omega
theorem zmo_nn {be : Int} {q : zPl} : ∀ m, 0 ≤ zmo be m q := by
  intro m
  cases m with
  | zero => exact Int.le_refl 0
  | succ m =>
    rw [zmo_s]
    split
    · exact zmx_ge.1
    · exact Int.le_refl 0
theorem zmo_le {be : Int} : ∀ (m : Nat) (B : Int) (q : zPl), zqok B q → zmo be m q ≤ 99 * (m : Int) := by
  intro m
  induction m with
  | zero => intro B q _; exact Int.le_refl 0
  | succ m ih =>
    intro B q h
    have h1 := ih _ _ (znx_ok (w := 1) h)
    have h2 := ih _ _ (znx_ok (w := 0) h)
    have h3 := zdl_ok (w := 1) h
    have h4 := zdl_ok (w := 0) h
    rw [zmo_s]
    split
    · rcases zmx_or (w := zmo be m (znx 1 q) + zdl 1 q) (l := zmo be m (znx 0 q) + zdl 0 q) with e | e | e <;> rw [e] <;> omega
    · omega
theorem zmo_ge {be : Int} {m : Nat} {q : zPl} {w : Int} (hw : w = 0 ∨ w = 1) (hg : zgn be q = 0) : zmo be m (znx w q) + zdl w q ≤ zmo be (m + 1) q := by
  rw [zmo_s, if_pos hg]
  rcases hw with rfl | rfl
  · exact zmx_ge.2.2
  · exact zmx_ge.2.1
/-- a row of wins and losses, the lowest bit first: the most that it has grown by then -/
def zgw (be : Int) : Nat → Nat → zPl → Int → Int → Int
  | 0, _, _, _, acc => acc
  | m + 1, x, q, g, acc => if zgn be q = 0 then zgw be m (x / 2) (znx ((x % 2 : Nat) : Int) q) (g + zdl ((x % 2 : Nat) : Int) q) (if acc < g + zdl ((x % 2 : Nat) : Int) q then g + zdl ((x % 2 : Nat) : Int) q else acc) else acc
theorem zgw_s {be : Int} {m x : Nat} {q : zPl} {g acc : Int} : zgw be (m + 1) x q g acc = if zgn be q = 0 then zgw be m (x / 2) (znx ((x % 2 : Nat) : Int) q) (g + zdl ((x % 2 : Nat) : Int) q) (if acc < g + zdl ((x % 2 : Nat) : Int) q then g + zdl ((x % 2 : Nat) : Int) q else acc) else acc := rfl
theorem zgw_mono {be : Int} : ∀ (m x : Nat) (q : zPl) (g acc : Int), acc ≤ zgw be m x q g acc := by
  intro m
  induction m with
  | zero => intro x q g acc; exact Int.le_refl _
  | succ m ih =>
    intro x q g acc
    rw [zgw_s]
    split
    · refine Int.le_trans ?_ (ih _ _ _ _)
      split
      · next h => exact Int.le_of_lt h
      · exact Int.le_refl _
    · exact Int.le_refl _
theorem zb01 {x : Nat} : ((x % 2 : Nat) : Int) = 0 ∨ ((x % 2 : Nat) : Int) = 1 := by omega
theorem zgw_up {be : Int} : ∀ (m x : Nat) (q : zPl) (g acc U : Int), acc ≤ U → g + zmo be m q ≤ U → zgw be m x q g acc ≤ U := by
  intro m
  induction m with
  | zero => intro x q g acc U h _; exact h
  | succ m ih =>
    intro x q g acc U h1 h2
    rw [zgw_s]
    split
    · next hg =>
      have h3 := zmo_ge (m := m) (zb01 (x := x)) hg
      have h4 := zmo_nn (be := be) (q := znx ((x % 2 : Nat) : Int) q) m
      refine ih _ _ _ _ _ ?_ (by omega)
      split
      · omega
      · exact h1
    · exact h1
theorem zgw_hit {be : Int} : ∀ (m : Nat) (q : zPl), ∃ x, x < 2 ^ m ∧ ∀ g acc, g ≤ acc → g + zmo be m q ≤ zgw be m x q g acc := by
  intro m
  induction m with
  | zero =>
    intro q
    refine ⟨0, by decide, fun g acc h => ?_⟩
    show g + 0 ≤ acc
    omega
  | succ m ih =>
    intro q
    have hp : 2 ^ (m + 1) = 2 * 2 ^ m := by rw [Nat.pow_succ, Nat.mul_comm]
    have key : ∀ b : Nat, b < 2 → zgn be q = 0 → zmo be (m + 1) q = zmo be m (znx (b : Int) q) + zdl (b : Int) q → ∃ x, x < 2 ^ (m + 1) ∧ ∀ g acc, g ≤ acc → g + zmo be (m + 1) q ≤ zgw be (m + 1) x q g acc := by
      intro b hb hg he
      obtain ⟨x, hx, h⟩ := ih (znx (b : Int) q)
      refine ⟨2 * x + b, by omega, fun g acc hga => ?_⟩
      have e1 : (2 * x + b) % 2 = b := by omega
      have e2 : (2 * x + b) / 2 = x := by omega
      rw [zgw_s, if_pos hg, e1, e2, he]
      have := h (g + zdl (b : Int) q) (if acc < g + zdl (b : Int) q then g + zdl (b : Int) q else acc) (by split <;> omega)
      omega
    by_cases hg : zgn be q = 0
    · rcases zmx_or (w := zmo be m (znx 1 q) + zdl 1 q) (l := zmo be m (znx 0 q) + zdl 0 q) with e | e | e
      · refine ⟨0, Nat.two_pow_pos _, fun g acc hga => ?_⟩
        have h1 := zgw_mono (be := be) (m + 1) 0 q g acc
        rw [zmo_s, if_pos hg, e]
        omega
      · exact key 1 (by omega) hg (by rw [zmo_s, if_pos hg, e]; rfl)
      · exact key 0 (by omega) hg (by rw [zmo_s, if_pos hg, e]; rfl)
    · refine ⟨0, Nat.two_pow_pos _, fun g acc hga => ?_⟩
      have h1 := zgw_mono (be := be) (m + 1) 0 q g acc
      rw [zmo_s, if_neg hg]
      omega
/-- all rows: (by a loss first, by a win first) -/
def zrw (be : Int) (n : Nat) (q : zPl) (x : Nat) (r : Int × Int) : Int × Int := if x % 2 = 1 then (r.1, zgw be n x q 0 r.2) else (zgw be n x q 0 r.1, r.2)
theorem zrw_mono {be : Int} {n : Nat} {q : zPl} : ∀ (m x : Nat) (r : Int × Int), r.1 ≤ (zfor (zrw be n q) m x r).1 ∧ r.2 ≤ (zfor (zrw be n q) m x r).2 := by
  intro m
  induction m with
  | zero => intro x r; exact ⟨Int.le_refl _, Int.le_refl _⟩
  | succ m ih =>
    intro x r
    have h := ih (x + 1) (zrw be n q x r)
    have h1 : r.1 ≤ (zrw be n q x r).1 ∧ r.2 ≤ (zrw be n q x r).2 := by
      unfold zrw
      split
      · exact ⟨Int.le_refl _, zgw_mono _ _ _ _ _⟩
      · exact ⟨zgw_mono _ _ _ _ _, Int.le_refl _⟩
    exact ⟨Int.le_trans h1.1 h.1, Int.le_trans h1.2 h.2⟩
theorem zgw_b {be : Int} {m x : Nat} {q : zPl} {acc U : Int} (h1 : acc ≤ U) (h0 : 0 ≤ U) (h2 : zmo be m (znx ((x % 2 : Nat) : Int) q) + zdl ((x % 2 : Nat) : Int) q ≤ U) : zgw be (m + 1) x q 0 acc ≤ U := by
  have h4 := zmo_nn (be := be) (q := znx ((x % 2 : Nat) : Int) q) m
  rw [zgw_s]
  split
  · refine zgw_up _ _ _ _ _ _ ?_ (by omega)
    split
    · omega
    · exact h1
  · exact h1
theorem zrw_up {be : Int} {n : Nat} {q : zPl} {U V : Int} (hU : 0 ≤ U ∧ zmo be n (znx 0 q) + zdl 0 q ≤ U) (hV : 0 ≤ V ∧ zmo be n (znx 1 q) + zdl 1 q ≤ V) : ∀ (m x : Nat) (r : Int × Int), r.1 ≤ U → r.2 ≤ V → (zfor (zrw be (n + 1) q) m x r).1 ≤ U ∧ (zfor (zrw be (n + 1) q) m x r).2 ≤ V := by
  intro m
  induction m with
  | zero => intro x r h1 h2; exact ⟨h1, h2⟩
  | succ m ih =>
    intro x r h1 h2
    have e : zfor (zrw be (n + 1) q) (m + 1) x r = zfor (zrw be (n + 1) q) m (x + 1) (zrw be (n + 1) q x r) := rfl
    rw [e]
    unfold zrw
    by_cases c : x % 2 = 1
    · rw [if_pos c]
      exact ih _ _ h1 (zgw_b h2 hV.1 (by rw [c]; exact hV.2))
    · have c0 : x % 2 = 0 := by omega
      rw [if_neg c]
      exact ih _ _ (zgw_b h1 hU.1 (by rw [c0]; exact hU.2)) h2
theorem zrw_hit {be : Int} {n : Nat} {q : zPl} {b : Nat} (hb : b < 2) (hg : zgn be q = 0) : ∃ y, y < 2 ^ (n + 1) ∧ y % 2 = b ∧ ∀ (m x : Nat) (r : Int × Int), x ≤ y → y < x + m → 0 ≤ r.1 → 0 ≤ r.2 → zmo be n (znx (b : Int) q) + zdl (b : Int) q ≤ (if b = 1 then (zfor (zrw be (n + 1) q) m x r).2 else (zfor (zrw be (n + 1) q) m x r).1) := by
  obtain ⟨z, hz, h⟩ := zgw_hit (be := be) n (znx (b : Int) q)
  have hp : 2 ^ (n + 1) = 2 * 2 ^ n := by rw [Nat.pow_succ, Nat.mul_comm]
  have e1 : (2 * z + b) % 2 = b := by omega
  have e2 : (2 * z + b) / 2 = z := by omega
  refine ⟨2 * z + b, by omega, e1, ?_⟩
  intro m
  induction m with
  | zero => intro x r h1 h2; exact absurd h2 (by omega)
  | succ m ih =>
    intro x r h1 h2 h3 h4
    have e : zfor (zrw be (n + 1) q) (m + 1) x r = zfor (zrw be (n + 1) q) m (x + 1) (zrw be (n + 1) q x r) := rfl
    have hm := zrw_mono (be := be) (n := n + 1) (q := q) 1 x r
    have hm : r.1 ≤ (zrw be (n + 1) q x r).1 ∧ r.2 ≤ (zrw be (n + 1) q x r).2 := hm
    rw [e]
    by_cases c : x = 2 * z + b
    · have hm2 := zrw_mono (be := be) (n := n + 1) (q := q) m (x + 1) (zrw be (n + 1) q x r)
      have hv : ∀ acc, 0 ≤ acc → zmo be n (znx (b : Int) q) + zdl (b : Int) q ≤ zgw be (n + 1) x q 0 acc := by
        intro acc ha
        rw [zgw_s, if_pos hg, c, e1, e2]
        have := h (0 + zdl (b : Int) q) (if acc < 0 + zdl (b : Int) q then 0 + zdl (b : Int) q else acc) (by split <;> omega)
        omega
      by_cases c1 : b = 1
      · rw [if_pos c1]
        refine Int.le_trans ?_ hm2.2
        have ez : (zrw be (n + 1) q x r).2 = zgw be (n + 1) x q 0 r.2 := by
          unfold zrw
          rw [if_pos (show x % 2 = 1 by omega)]
        rw [ez]
        exact hv _ h4
      · rw [if_neg c1]
        refine Int.le_trans ?_ hm2.1
        have ez : (zrw be (n + 1) q x r).1 = zgw be (n + 1) x q 0 r.1 := by
          unfold zrw
          rw [if_neg (show ¬ x % 2 = 1 by omega)]
        rw [ez]
        exact hv _ h3
    · exact ih (x + 1) _ (by omega) (by omega) (by omega) (by omega)
def zpos (x : Int) : Int := if 0 < x then x else 0
/-- all rows tried give what the recursion gives -/
theorem zrw_all {be : Int} {n : Nat} {q : zPl} (hg : zgn be q = 0) : zfor (zrw be (n + 1) q) (2 ^ (n + 1)) 0 (0, 0) = (zpos (zmo be n (znx 0 q) + zdl 0 q), zpos (zmo be n (znx 1 q) + zdl 1 q)) := by
  have p1 : ∀ x, 0 ≤ zpos x ∧ x ≤ zpos x := by intro x; unfold zpos; split <;> omega
  have hu := zrw_up (be := be) (n := n) (q := q) (p1 _) (p1 _) (2 ^ (n + 1)) 0 (0, 0) (p1 _).1 (p1 _).1
  have hm := zrw_mono (be := be) (n := n + 1) (q := q) (2 ^ (n + 1)) 0 (0, 0)
  obtain ⟨y1, hy1, -, h1⟩ := zrw_hit (be := be) (n := n) (q := q) (b := 1) (by omega) hg
  obtain ⟨y0, hy0, -, h0⟩ := zrw_hit (be := be) (n := n) (q := q) (b := 0) (by omega) hg
  have a1 := h1 (2 ^ (n + 1)) 0 (0, 0) (Nat.zero_le _) (by rw [Nat.zero_add]; exact hy1) (Int.le_refl 0) (Int.le_refl 0)
  have a0 := h0 (2 ^ (n + 1)) 0 (0, 0) (Nat.zero_le _) (by rw [Nat.zero_add]; exact hy0) (Int.le_refl 0) (Int.le_refl 0)
  rw [if_pos rfl] at a1
  rw [if_neg (by decide)] at a0
  have a1 : zmo be n (znx 1 q) + zdl 1 q ≤ _ := a1
  have a0 : zmo be n (znx 0 q) + zdl 0 q ≤ _ := a0
  have m1 : (0 : Int) ≤ (zfor (zrw be (n + 1) q) (2 ^ (n + 1)) 0 (0, 0)).1 := hm.1
  have m2 : (0 : Int) ≤ (zfor (zrw be (n + 1) q) (2 ^ (n + 1)) 0 (0, 0)).2 := hm.2
  generalize zfor (zrw be (n + 1) q) (2 ^ (n + 1)) 0 (0, 0) = r at hu a1 a0 m1 m2 ⊢
  generalize zmo be n (znx 1 q) + zdl 1 q = v1 at hu a1 ⊢
  generalize zmo be n (znx 0 q) + zdl 0 q = v0 at hu a0 ⊢
  obtain ⟨r1, r2⟩ := r
  have b1 : r1 = zpos v0 := by
    have := hu.1
    unfold zpos at this ⊢
    have a0 : v0 ≤ r1 := a0
    have m1 : 0 ≤ r1 := m1
    have this : r1 ≤ if 0 < v0 then v0 else 0 := this
    split at this
    · next c => rw [if_pos c]; omega
    · next c => rw [if_neg c]; omega
  have b2 : r2 = zpos v1 := by
    have := hu.2
    unfold zpos at this ⊢
    have a1 : v1 ≤ r2 := a1
    have m2 : 0 ≤ r2 := m2
    have this : r2 ≤ if 0 < v1 then v1 else 0 := this
    split at this
    · next c => rw [if_pos c]; omega
    · next c => rw [if_neg c]; omega
  rw [b1, b2]
theorem zrw_gone {be : Int} {n : Nat} {q : zPl} (hg : ¬ zgn be q = 0) : ∀ (m x : Nat) (r : Int × Int), zfor (zrw be (n + 1) q) m x r = r := by
  intro m
  induction m with
  | zero => intro x r; rfl
  | succ m ih =>
    intro x r
    have e : zfor (zrw be (n + 1) q) (m + 1) x r = zfor (zrw be (n + 1) q) m (x + 1) (zrw be (n + 1) q x r) := rfl
    have e2 : zrw be (n + 1) q x r = r := by
      unfold zrw
      rw [zgw_s, zgw_s, if_neg hg, if_neg hg]
      split <;> rfl
    rw [e, e2]
    exact ih _ _
