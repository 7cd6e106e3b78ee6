/-! ORDERS: no number gets too great. -/
def zpc (s : Nat) : Nat := s % 2 + s / 2 % 2 + s / 4 % 2 + s / 8 % 2 + s / 16 % 2 + s / 32 % 2 + s / 64 % 2
def zfct : Nat → Nat
  | 0 => 1
  | n + 1 => (n + 1) * zfct n
def zcw (N s : Nat) : Int := ((zfct (N - zpc s) : Nat) : Int)
/-- what the passes that are not in a set are worth, so many more from the i-th on -/
def zrs (N s : Nat) : Nat → Nat → Int
  | 0, _ => 0
  | m + 1, i => (if s / 2 ^ i % 2 = 1 then 0 else zcw N (s + 2 ^ i)) + zrs N s m (i + 1)
theorem zfct_pos : ∀ n, 1 ≤ zfct n := by
  intro n
  induction n with
  | zero => exact Nat.le_refl 1
  | succ n ih => exact Nat.le_trans ih (Nat.le_mul_of_pos_left _ (by omega))
theorem zcw_pos {N s : Nat} : 1 ≤ zcw N s := by
  have := zfct_pos (N - zpc s)
  unfold zcw
  omega
theorem zrs_pos {N s : Nat} : ∀ m i, 0 ≤ zrs N s m i := by
  intro m
  induction m with
  | zero => intro i; exact Int.le_refl 0
  | succ m ih =>
    intro i
    have h1 := ih (i + 1)
    have h2 := zcw_pos (N := N) (s := s + 2 ^ i)
    show 0 ≤ (if s / 2 ^ i % 2 = 1 then 0 else zcw N (s + 2 ^ i)) + zrs N s m (i + 1)
    split <;> omega
set_option maxRecDepth 20000 in
theorem zof1 : ∀ N : Nat, N < 8 → ∀ s : Nat, s < 2 ^ N → zrs N s N 0 ≤ zcw N s := by decide +kernel
theorem zof2 : ∀ N : Nat, N < 8 → zcw N 0 ≤ 5040 ∧ 1 ≤ 2 ^ N ∧ 2 ^ N ≤ 128 := by decide +kernel
set_option maxRecDepth 20000 in
theorem zof3 : ∀ N : Nat, N < 8 → ∀ s : Nat, s < 2 ^ N → ∀ i : Nat, i < N → (s / 2 ^ i % 2 = 1 ∨ (s + 2 ^ i < 2 ^ N ∧ 1 ≤ 2 ^ i ∧ zor (s : Int) (zshl 1 (i : Int)) = ((s + 2 ^ i : Nat) : Int))) := by decide +kernel
/-- sums -/
def zS (f : Nat → Int) : Nat → Int
  | 0 => 0
  | n + 1 => zS f n + f n
theorem zS_same {f g : Nat → Int} : ∀ n, (∀ k, k < n → f k = g k) → zS f n = zS g n := by
  intro n
  induction n with
  | zero => intro _; rfl
  | succ n ih =>
    intro h
    show zS f n + f n = zS g n + g n
    rw [ih (fun k hk => h k (by omega)), h n (by omega)]
theorem zS_upd {f : Nat → Int} {j : Nat} {d : Int} : ∀ n, j < n → zS (fun k => if k = j then f k + d else f k) n = zS f n + d := by
  intro n
  induction n with
  | zero => intro h; exact absurd h (by omega)
  | succ n ih =>
    intro h
    show zS (fun k => if k = j then f k + d else f k) n + (if n = j then f n + d else f n) = zS f n + f n + d
    by_cases e : n = j
    · have h1 : zS (fun k => if k = j then f k + d else f k) n = zS f n := zS_same n (fun k hk => if_neg (by omega))
      rw [h1, if_pos e]
      omega
    · rw [ih (by omega), if_neg e]
      omega
theorem zS_0 : ∀ n, zS (fun _ => 0) n = 0 := by
  intro n
  induction n with
  | zero => rfl
  | succ n ih =>
    show zS (fun _ => 0) n + 0 = 0
    rw [ih]
    rfl
theorem zS_nn {f : Nat → Int} : ∀ n, (∀ k, k < n → 0 ≤ f k) → 0 ≤ zS f n := by
  intro n
  induction n with
  | zero => intro _; exact Int.le_refl 0
  | succ n ih =>
    intro h
    have h1 := ih (fun k hk => h k (by omega))
    have h2 := h n (by omega)
    show 0 ≤ zS f n + f n
    omega
theorem zS_ge {f : Nat → Int} {j : Nat} : ∀ n, (∀ k, k < n → 0 ≤ f k) → j < n → f j ≤ zS f n := by
  intro n
  induction n with
  | zero => intro _ h; exact absurd h (by omega)
  | succ n ih =>
    intro h hj
    have h2 := h n (by omega)
    have h3 := zS_nn n (fun k hk => h k (by omega))
    show f j ≤ zS f n + f n
    by_cases e : j = n
    · rw [e]; omega
    · have := ih (fun k hk => h k (by omega)) (by omega)
      omega
theorem zS_le {f g : Nat → Int} : ∀ n, (∀ k, k < n → f k ≤ g k) → zS f n ≤ zS g n := by
  intro n
  induction n with
  | zero => intro _; exact Int.le_refl 0
  | succ n ih =>
    intro h
    have h1 := ih (fun k hk => h k (by omega))
    have h2 := h n (by omega)
    show zS f n + f n ≤ zS g n + g n
    omega
/-- what is still to go on, from the p-th on, is worth -/
def zPh (N : Nat) (W : Nat → Int) (p : Nat) : Int := zS (fun k => if p ≤ k then W k * zcw N (k / 7) else 0) (7 * 2 ^ N)
def zup (W : Nat → Int) (j : Nat) (d : Int) : Nat → Int := fun k => if k = j then w32 (W k + d) else W k
def zWB (N : Nat) (W : Nat → Int) : Prop := ∀ k, k < 7 * 2 ^ N → 0 ≤ W k ∧ W k ≤ 5040
theorem zcw_mul {N s : Nat} {x : Int} (h : 0 ≤ x) : 0 ≤ x * zcw N s ∧ x ≤ x * zcw N s := by
  have h1 := zcw_pos (N := N) (s := s)
  refine ⟨Int.mul_nonneg h (by omega), ?_⟩
  have := Int.mul_le_mul_of_nonneg_left h1 h
  rw [Int.mul_one] at this
  exact this
theorem zPh_push {N p j : Nat} {W : Nat → Int} {d : Int} (hp : p ≤ j) (hj : j < 7 * 2 ^ N) (hw : w32 (W j + d) = W j + d) : zPh N (zup W j d) p = zPh N W p + d * zcw N (j / 7) := by
  unfold zPh
  rw [← zS_upd (f := fun k => if p ≤ k then W k * zcw N (k / 7) else 0) (j := j) (d := d * zcw N (j / 7)) _ hj]
  refine zS_same _ (fun k hk => ?_)
  show (if p ≤ k then zup W j d k * zcw N (k / 7) else 0) = if k = j then (if p ≤ k then W k * zcw N (k / 7) else 0) + d * zcw N (j / 7) else (if p ≤ k then W k * zcw N (k / 7) else 0)
  unfold zup
  by_cases e : k = j
  · rw [if_pos e, if_pos e, e, if_pos hp, if_pos hp, hw, Int.add_mul]
  · rw [if_neg e, if_neg e]
theorem zPh_step {N p : Nat} {W : Nat → Int} (hp : p < 7 * 2 ^ N) : zPh N W p = zPh N W (p + 1) + W p * zcw N (p / 7) := by
  unfold zPh
  rw [← zS_upd (f := fun k => if p + 1 ≤ k then W k * zcw N (k / 7) else 0) (j := p) (d := W p * zcw N (p / 7)) _ hp]
  refine zS_same _ (fun k hk => ?_)
  show (if p ≤ k then W k * zcw N (k / 7) else 0) = if k = p then (if p + 1 ≤ k then W k * zcw N (k / 7) else 0) + W p * zcw N (p / 7) else (if p + 1 ≤ k then W k * zcw N (k / 7) else 0)
  by_cases e : k = p
  · rw [if_pos e, e, if_pos (Nat.le_refl p), if_neg (by omega), Int.zero_add]
  · rw [if_neg e]
    by_cases c : p ≤ k
    · rw [if_pos c, if_pos (by omega)]
    · rw [if_neg c, if_neg (by omega)]
theorem zPh_mono {N p p' : Nat} {W : Nat → Int} (hW : zWB N W) (h : p ≤ p') : zPh N W p' ≤ zPh N W p := by
  refine zS_le _ (fun k hk => ?_)
  have h1 := (zcw_mul (N := N) (s := k / 7) (hW k hk).1).1
  show (if p' ≤ k then W k * zcw N (k / 7) else 0) ≤ if p ≤ k then W k * zcw N (k / 7) else 0
  split
  · rw [if_pos (by omega)]; exact Int.le_refl _
  · split
    · exact h1
    · exact Int.le_refl 0
theorem zPh_ge {N p j : Nat} {W : Nat → Int} (hW : ∀ k, k < 7 * 2 ^ N → 0 ≤ W k) (hp : p ≤ j) (hj : j < 7 * 2 ^ N) : W j ≤ zPh N W p := by
  have h1 := zS_ge (f := fun k => if p ≤ k then W k * zcw N (k / 7) else 0) (j := j) (7 * 2 ^ N) (fun k hk => by
    show 0 ≤ if p ≤ k then W k * zcw N (k / 7) else 0
    split
    · exact (zcw_mul (hW k hk)).1
    · exact Int.le_refl 0) hj
  have h2 : (if p ≤ j then W j * zcw N (j / 7) else 0) = W j * zcw N (j / 7) := if_pos hp
  have h1 : (if p ≤ j then W j * zcw N (j / 7) else 0) ≤ zPh N W p := h1
  rw [h2] at h1
  exact Int.le_trans (zcw_mul (hW j hj)).2 h1
/-- where the way goes on -/
def zwj (T : zTb) (s i : Nat) (pea : Int) : Nat := 7 * (s + 2 ^ i) + (zpea (T.2.2 i).1 (T.2.2 i).2.1 (T.2.2 i).2.2 pea + 1).toNat
def zwy (T : zTb) (s : Nat) (so pea : Int) (i : Nat) (W : Nat → Int) : Nat → Int := if s / 2 ^ i % 2 = 1 then W else zup W (zwj T s i pea) so
def zwg (T : zTb) (s q : Nat) (W : Nat → Int) : Nat → Int := if W (7 * s + q) = 0 then W else zfor (zwy T s (W (7 * s + q)) ((q : Int) - 1)) T.2.1 0 W
def zwst (T : zTb) (s : Nat) (W : Nat → Int) : Nat → Int := zfor (zwg T s) ((T.1 0).toNat + 1) 0 W
def zInv (N : Nat) (W : Nat → Int) (p : Nat) : Prop := zWB N W ∧ zPh N W p ≤ 5040
theorem zwj_ok {n s i : Nat} {pea : Int} {T : zTb} (ho : zTOK n T) (hN : T.2.1 < 8) (hs : s < 2 ^ T.2.1) (hi : i < T.2.1) (hb : ¬ s / 2 ^ i % 2 = 1) (hp : -1 ≤ pea ∧ pea < T.1 0) : zwj T s i pea < 7 * 2 ^ T.2.1 ∧ 7 * s + 7 ≤ zwj T s i pea ∧ zwj T s i pea / 7 = s + 2 ^ i ∧ (-1 ≤ zpea (T.2.2 i).1 (T.2.2 i).2.1 (T.2.2 i).2.2 pea ∧ zpea (T.2.2 i).1 (T.2.2 i).2.1 (T.2.2 i).2.2 pea < 6) := by
  obtain ⟨h1, h2, -⟩ := (zof3 T.2.1 hN s hs i hi).resolve_left hb
  obtain ⟨-, q2, q3, -⟩ := ho.2.2.2.2.2.1 i hi
  have h3 := zpea_in (k := (T.2.2 i).1) ho.1.1 q2 q3 hp
  have h4 := ho.1.2
  unfold zwj
  generalize 2 ^ i = e at h1 h2 ⊢
  generalize 2 ^ T.2.1 = M at h1 ⊢
  generalize zpea (T.2.2 i).1 (T.2.2 i).2.1 (T.2.2 i).2.2 pea = z at h3 ⊢
  omega
theorem zwy_l {n s p : Nat} {so pea : Int} {T : zTb} (ho : zTOK n T) (hN : T.2.1 < 8) (hs : s < 2 ^ T.2.1) (hp : -1 ≤ pea ∧ pea < T.1 0) (hso : 0 ≤ so ∧ so ≤ 5040) (hps : p ≤ 7 * s + 7) : ∀ (m i : Nat) (W : Nat → Int), i + m = T.2.1 → zWB T.2.1 W → zPh T.2.1 W p + so * zrs T.2.1 s m i ≤ 5040 → zInv T.2.1 (zfor (zwy T s so pea) m i W) p := by
  intro m
  induction m with
  | zero =>
    intro i W _ hW hP
    have e : zrs T.2.1 s 0 i = 0 := rfl
    rw [e, Int.mul_zero, Int.add_zero] at hP
    exact ⟨hW, hP⟩
  | succ m ih =>
    intro i W hi hW hP
    have e : zrs T.2.1 s (m + 1) i = (if s / 2 ^ i % 2 = 1 then 0 else zcw T.2.1 (s + 2 ^ i)) + zrs T.2.1 s m (i + 1) := rfl
    have ez : zfor (zwy T s so pea) (m + 1) i W = zfor (zwy T s so pea) m (i + 1) (if s / 2 ^ i % 2 = 1 then W else zup W (zwj T s i pea) so) := rfl
    rw [ez]
    by_cases c : s / 2 ^ i % 2 = 1
    · rw [if_pos c, Int.zero_add] at e
      rw [e] at hP
      rw [if_pos c]
      exact ih (i + 1) W (by omega) hW hP
    · obtain ⟨j1, j2, j3, -⟩ := zwj_ok ho hN hs (show i < T.2.1 by omega) c hp
      rw [if_neg c] at e
      rw [e, Int.mul_add] at hP
      rw [if_neg c]
      have hr : 0 ≤ so * zrs T.2.1 s m (i + 1) := Int.mul_nonneg hso.1 (zrs_pos _ _)
      have hWj := hW _ j1
      have hw : w32 (W (zwj T s i pea) + so) = W (zwj T s i pea) + so := zw32 (by omega) (by omega)
      have hpu := zPh_push (N := T.2.1) (p := p) (j := zwj T s i pea) (W := W) (d := so) (by omega) j1 hw
      rw [j3] at hpu
      have hnn : ∀ k, k < 7 * 2 ^ T.2.1 → 0 ≤ zup W (zwj T s i pea) so k := by
        intro k hk
        unfold zup
        split
        · next h => rw [h, hw]; omega
        · exact (hW k hk).1
      have hge := zPh_ge (N := T.2.1) (p := p) hnn (show p ≤ zwj T s i pea by omega) j1
      have hB : zWB T.2.1 (zup W (zwj T s i pea) so) := by
        intro k hk
        refine ⟨hnn k hk, ?_⟩
        by_cases h : k = zwj T s i pea
        · rw [h]
          rw [hpu] at hge
          omega
        · have : zup W (zwj T s i pea) so k = W k := if_neg h
          rw [this]
          exact (hW k hk).2
      refine ih (i + 1) _ (by omega) hB ?_
      rw [hpu]
      omega
theorem zwg_ok {n s q : Nat} {T : zTb} {W : Nat → Int} (ho : zTOK n T) (hN : T.2.1 < 8) (hs : s < 2 ^ T.2.1) (hq : (q : Int) ≤ T.1 0) (h : zInv T.2.1 W (7 * s + q)) : zInv T.2.1 (zwg T s q W) (7 * s + q + 1) := by
  have h06 := ho.1.2
  obtain ⟨hW, hP⟩ := h
  unfold zwg
  have hps : 7 * s + q < 7 * 2 ^ T.2.1 := by omega
  have hst := zPh_step (N := T.2.1) (W := W) hps
  have hWp := hW _ hps
  split
  · exact ⟨hW, Int.le_trans (zPh_mono hW (by omega)) hP⟩
  · refine zwy_l ho hN hs (by omega) hWp (by omega) T.2.1 0 W (by omega) hW ?_
    have e7 : (7 * s + q) / 7 = s := by omega
    rw [e7] at hst
    have h1 := zof1 T.2.1 hN s hs
    have h2 := Int.mul_le_mul_of_nonneg_left h1 hWp.1
    omega
theorem zwst_ok {n s : Nat} {T : zTb} {W : Nat → Int} (ho : zTOK n T) (hN : T.2.1 < 8) (hs : s < 2 ^ T.2.1) (h : zInv T.2.1 W (7 * s)) : zInv T.2.1 (zwst T s W) (7 * (s + 1)) := by
  have h06 := ho.1
  have key : ∀ (m q : Nat) (W : Nat → Int), q + m = (T.1 0).toNat + 1 → zInv T.2.1 W (7 * s + q) → zInv T.2.1 (zfor (zwg T s) m q W) (7 * s + ((T.1 0).toNat + 1)) := by
    intro m
    induction m with
    | zero =>
      intro q W hq h
      rw [show (T.1 0).toNat + 1 = q by omega]
      exact h
    | succ m ih =>
      intro q W hq h
      exact ih (q + 1) _ (by omega) (zwg_ok ho hN hs (by omega) h)
  obtain ⟨a, b⟩ := key ((T.1 0).toNat + 1) 0 W (by omega) h
  exact ⟨a, Int.le_trans (zPh_mono a (show 7 * s + ((T.1 0).toNat + 1) ≤ 7 * (s + 1) by omega)) b⟩
theorem zwa_ok {n : Nat} {T : zTb} (ho : zTOK n T) (hN : T.2.1 < 8) : ∀ (m s : Nat) (W : Nat → Int), s + m ≤ 2 ^ T.2.1 → zInv T.2.1 W (7 * s) → zInv T.2.1 (zfor (zwst T) m s W) (7 * (s + m)) := by
  intro m
  induction m with
  | zero => intro s W _ h; exact h
  | succ m ih =>
    intro s W hs h
    have := ih (s + 1) _ (by omega) (zwst_ok ho hN (by omega) h)
    rw [show s + 1 + m = s + (m + 1) by omega] at this
    exact this
def zW00 (b : Int) : Nat → Int := fun k => if k = (b + 1).toNat then 1 else 0
theorem zW00_ok {n : Nat} {T : zTb} (ho : zTOK n T) (hN : T.2.1 < 8) : zInv T.2.1 (zW00 (T.1 2)) 0 := by
  obtain ⟨f1, f2, f3⟩ := zof2 T.2.1 hN
  have h2 := ho.2.1
  have h06 := ho.1
  refine ⟨fun k _ => ?_, ?_⟩
  · unfold zW00
    split <;> omega
  · have hj : (T.1 2 + 1).toNat < 7 * 2 ^ T.2.1 := by omega
    have e : zPh T.2.1 (zW00 (T.1 2)) 0 = zcw T.2.1 ((T.1 2 + 1).toNat / 7) := by
      have h := zS_upd (f := fun _ => (0 : Int)) (j := (T.1 2 + 1).toNat) (d := zcw T.2.1 ((T.1 2 + 1).toNat / 7)) (7 * 2 ^ T.2.1) hj
      have h := h.trans (show _ = zcw T.2.1 ((T.1 2 + 1).toNat / 7) by rw [zS_0, Int.zero_add])
      refine Eq.trans (zS_same _ (fun k hk => ?_)) h
      show (if 0 ≤ k then zW00 (T.1 2) k * zcw T.2.1 (k / 7) else 0) = if k = (T.1 2 + 1).toNat then 0 + zcw T.2.1 ((T.1 2 + 1).toNat / 7) else 0
      rw [if_pos (Nat.zero_le k)]
      unfold zW00
      by_cases c : k = (T.1 2 + 1).toNat
      · rw [if_pos c, if_pos c, c, Int.one_mul, Int.zero_add]
      · rw [if_neg c, if_neg c, Int.zero_mul]
    rw [e, show (T.1 2 + 1).toNat / 7 = 0 by omega]
    exact f1
