/-! THE START: the law runs, if each call's contract holds. -/
def zTini : zTb := (fun j => if j = 0 then 3 else if j = 3 then 1 else if j < 47 then 0 else if j < 55 then (if j % 2 = 1 then 2 else 0) else if j < 71 then (if (j - 55) % 4 = 0 then 50 else if (j - 55) % 4 = 1 then 4 else if (j - 55) % 4 = 2 then 2 else 0) else 0, (0, fun _ => (0, (0, 0))))
def zSini : zSt := (zTini, (0, (zTini, ((0, fun _ => 0), (fun _ => (0, (0, fun _ => 0)), fun _ => 0)))))
theorem zSini_ok : zSOK 0 zSini := by
  refine ⟨⟨by decide, by decide, by unfold zint; decide, by decide, by decide, fun i hi => absurd hi (by show ¬ i < 0; omega), ?_, ?_, ?_⟩, Or.inl rfl, fun h => absurd h (by decide), by decide, fun j => ⟨by show (-128 : Int) ≤ 0; omega, by show (0 : Int) ≤ 127; omega⟩, fun s hs => ⟨Or.inl rfl, by show 0 ≤ 40; omega, fun _ => rfl, fun j => ⟨by show (-2147483648 : Int) ≤ 0; omega, by show (0 : Int) < 2147483648; omega⟩⟩, fun k hk => ⟨by show (0 : Int) ≤ 0; omega, by show (0 : Int) ≤ ((0 : Nat) : Int); omega⟩, by omega⟩
  · decide
  · decide
  · decide
theorem zini {I : Nat → Nat → Int} (h : zIni I) (a j : Nat) (v : Int) (hm : (a, (j, v)) ∈ zItab) : I a j = v := h _ hm
theorem zSini_x {I : Nat → Nat → Int} (h : zIni I) : zRX I zSini := by
  refine ⟨⟨zini h 2 0 3 (by decide +kernel), zini h 2 1 0 (by decide +kernel), zini h 2 2 0 (by decide +kernel), zini h 2 3 0 (by decide +kernel), zini h 2 4 1 (by decide +kernel), fun i hi => absurd hi (by show ¬ i < 0; omega), fun e he => ?_, fun p k hp hk => ?_, fun s hs => ?_⟩, zini h 1 3 0 (by decide +kernel), fun e => absurd e (by decide), zini h 123 1 0 (by decide +kernel), fun j hj => absurd hj (by show ¬ j < 0; omega), fun s hs => ⟨?_, ?_, fun j hj => absurd hj (by show ¬ j < 0; omega)⟩, fun k hk => ?_⟩
  · exact ⟨zini h _ _ _ ((by decide +kernel : ∀ e, e < 4 → (2 + 19 + e, (0, zTini.1 (47 + 2 * e))) ∈ zItab) e he), zini h _ _ _ ((by decide +kernel : ∀ e, e < 4 → (2 + 19 + e, (1, zTini.1 (48 + 2 * e))) ∈ zItab) e he)⟩
  · exact zini h _ _ _ ((by decide +kernel : ∀ p, p < 4 → ∀ k, k < 4 → (2 + 23 + p, (k, zTini.1 (55 + 4 * p + k))) ∈ zItab) p hp k hk)
  · exact zini h _ _ _ ((by decide +kernel : ∀ s, s < 10 → (2 + 4, (s, zTini.1 (71 + s) - 1)) ∈ zItab) s hs)
  · exact zini h _ _ _ ((by decide +kernel : ∀ s, s < 4 → ((127 + 2 * s, (0, 0)) : Nat × (Nat × Int)) ∈ zItab) s hs)
  · exact zini h _ _ _ ((by decide +kernel : ∀ s, s < 4 → ((127 + 2 * s, (1, 0)) : Nat × (Nat × Int)) ∈ zItab) s hs)
  · exact zini h _ _ _ ((by decide +kernel : ∀ k, k < 7 → ((126, (k, 0)) : Nat × (Nat × Int)) ∈ zItab) k hk)
theorem zSini_m {I : Nat → Nat → Int} (h : zIni I) : zRM I zSini := by
  refine ⟨⟨fun j hj => ?_, zini h 136 1 0 (by decide +kernel), fun i hi => absurd hi (by show ¬ i < 0; omega)⟩, zini h 135 3 0 (by decide +kernel), fun e => absurd e (by decide), zini h 135 6 0 (by decide +kernel), fun j hj => absurd hj (by show ¬ j < 0; omega), fun s hs => ⟨?_, ?_, fun j hj => absurd hj (by show ¬ j < 0; omega)⟩, fun k hk => ?_⟩
  · have f1 : ∀ k, k < 3 → (136, (2 + k, zTini.1 (2 + k))) ∈ zItab := by decide +kernel
    have f2 : ∀ k, k < 34 → (136, (47 + k, zTini.1 (47 + k))) ∈ zItab := by decide +kernel
    rcases hj with rfl | hj | hj
    · exact zini h 136 0 3 (by decide +kernel)
    · obtain ⟨k, rfl⟩ := Nat.exists_eq_add_of_le hj.1
      exact zini h _ _ _ (f1 k (by omega))
    · obtain ⟨k, rfl⟩ := Nat.exists_eq_add_of_le hj.1
      exact zini h _ _ _ (f2 k (by omega))
  · exact zini h _ _ _ ((by decide +kernel : ∀ s, s < 4 → ((147, (s, 0)) : Nat × (Nat × Int)) ∈ zItab) s hs)
  · exact zini h _ _ _ ((by decide +kernel : ∀ s, s < 4 → ((148, (s, 0)) : Nat × (Nat × Int)) ∈ zItab) s hs)
  · exact zini h _ _ _ ((by decide +kernel : ∀ k, k < 7 → ((139, (k, 0)) : Nat × (Nat × Int)) ∈ zItab) k hk)
set_option maxRecDepth 8000 in
theorem zb_law_0 {X : zX} {C : zC} : zgo X C zc_law 0 (zinit [.inr (.inr (.inr 0))] 4) [] z0 = (if (zmake z0 (1, (9, 0)) 11).2.2.1 1 = (1, (9, 0)) then (C 69 [.inr (.inr (.inl 1))] (zmake z0 (1, (9, 0)) 11)).bind fun q => zgo X C zc_law 7 [some (.inr (.inr (.inr 0))), none, none, none] (q.1.toList ++ [.inr (.inr (.inl 1))]) q.2 else none) := (zgo_blk [7] 6).trans rfl
set_option maxRecDepth 8000 in
theorem zb_law_7 {X : zX} {C : zC} {σ : zMem} : zgo X C zc_law 7 [some (.inr (.inr (.inr 0))), none, none, none] [.inr (.inr (.inl 1))] σ = (if (zmake σ (1, (10, 0)) 31).2.2.1 (σ.2.2.2.1 + 1) = (1, (10, 0)) then (C 139 [.inr (.inr (.inl (σ.2.2.2.1 + 1)))] (zmake σ (1, (10, 0)) 31)).bind fun q => zgo X C zc_law 15 [some (.inr (.inr (.inr 0))), some (.inr (.inr (.inl 1))), none, none] (q.1.toList ++ [.inr (.inr (.inl (σ.2.2.2.1 + 1)))]) q.2 else none) := (zgo_blk [15] 6).trans rfl
theorem zlaw_runs (hall : ∀ (N : Nat) (xs : Nat → Int32) (L : zLt), N ≤ 3072 → zLay L → zAll (zXs N xs) L) (N : Nat) (xs : Nat → Int32) (hN : N ≤ 3072) : zLawRuns N xs := by
  obtain ⟨σ1, I, L, hL, hI, h134, hc⟩ := zset_ex
  obtain ⟨c1, c2⟩ := hc (zXs N xs) 34
  have hX : ∀ j, zint ((zXs N xs 0).2 j) := by
    intro j
    show -2147483648 ≤ (xs j).toInt ∧ (xs j).toInt < 2147483648
    have a1 := Int32.le_toInt (xs j)
    have a2 := Int32.toInt_lt (xs j)
    exact ⟨by omega, by omega⟩
  obtain ⟨rf, q1, q2⟩ := zlc_all (X := zXs N xs) hL (hall N xs L hN hL) hX hN 600 0 0 (by omega) (by show N < 0 + 6 * 600 + 6; omega) (by omega) I zSini zSini_ok (zSini_x hI) (zSini_m hI)
  have hk : (zmake σ1 (1, (10, 0)) 31).2.2.1 (σ1.2.2.2.1 + 1) = (1, (10, 0)) := if_pos rfl
  have hk0 : (zmake z0 (1, (9, 0)) 11).2.2.1 1 = (1, (9, 0)) := rfl
  have hrun : zgo (zXs N xs) (zcal (zXs N xs) zP 40) zc_law 0 (zinit [.inr (.inr (.inr 0))] 4) [] z0 = some (some (.inl 1), rf) := by
    rw [zb_law_0, if_pos hk0, c1]
    show zgo _ _ zc_law 7 _ [.inr (.inr (.inl 1))] σ1 = _
    rw [zb_law_7, if_pos hk, h134, c2]
    show zgo _ _ zc_law 15 [some (.inr (.inr (.inr 0))), some (.inr (.inr (.inl 1))), none, none] [.inr (.inr (.inl 135))] (I, L) = _
    rw [zb_law_15]
    exact q1
  obtain ⟨n, hn⟩ := zgo_get hrun
  refine ⟨n, 40, rf, by omega, hn, ?_, ?_⟩
  · rw [q2, hL.2.2]; omega
  · rw [q2, hL.2.2]; omega
