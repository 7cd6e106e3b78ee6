/-! CALLS of the small machine: the arguments must fit the locals. -/
noncomputable def zcal (X : zX) (P : zT) : Nat → zC
  | 0 => fun _ _ _ => none
  | d + 1 => fun y as σ => match P y with
    | none => none
    | some q => match Nat.ble (zargs as).length q.1 with
      | true => zlim (fun n => zrun X (zcal X P d) q.2 n 0 (zinit as q.1) [] σ)
      | false => none
/-- the same, with so many steps for each method: to be counted out -/
def zcalF (X : zX) (P : zT) (F : Nat) : Nat → zC
  | 0 => fun _ _ _ => none
  | d + 1 => fun y as σ => match P y with
    | none => none
    | some q => match Nat.ble (zargs as).length q.1 with
      | true => zrun X (zcalF X P F d) q.2 F 0 (zinit as q.1) [] σ
      | false => none
theorem zcal_of {X : zX} {P : zT} {d y nl n : Nat} {code : List (Nat × (Instr × Nat))} {as : List zV} {σ : zMem} {r : Option zV × zMem} (hP : P y = some (nl, code)) (hl : (zargs as).length ≤ nl) (h : zrun X (zcal X P d) code n 0 (zinit as nl) [] σ = some r) : zcal X P (d + 1) y as σ = some r := by
  simp only [zcal, hP]
  rw [Nat.ble_eq_true_of_le hl]
  exact zlim_of (fun n r h => zrun_mono (fun _ _ _ _ h => h) n (n + 1) (by omega) _ _ _ _ _ h) h
theorem zcal_get {X : zX} {P : zT} {d y : Nat} {as : List zV} {σ : zMem} {r : Option zV × zMem} (h : zcal X P (d + 1) y as σ = some r) : ∃ nl code n, P y = some (nl, code) ∧ (zargs as).length ≤ nl ∧ zrun X (zcal X P d) code n 0 (zinit as nl) [] σ = some r := by
  simp only [zcal] at h
  cases hP : P y with
  | none => rw [hP] at h; cases h
  | some q =>
    rw [hP] at h
    simp only [] at h
    split at h
    · next hb =>
      obtain ⟨n, hn⟩ := zlim_get h
      exact ⟨q.1, q.2, n, rfl, Nat.ble_eq.mp hb, hn⟩
    · cases h
theorem zcalF_cal {X : zX} {P : zT} {F : Nat} : ∀ (d y : Nat) (as : List zV) (σ : zMem) (r : Option zV × zMem), zcalF X P F d y as σ = some r → zcal X P d y as σ = some r := by
  intro d
  induction d with
  | zero => intro y as σ r h; cases h
  | succ d ih =>
    intro y as σ r h
    simp only [zcalF] at h
    cases hP : P y with
    | none => rw [hP] at h; cases h
    | some q =>
      rw [hP] at h
      simp only [] at h
      split at h
      · next hb => exact zcal_of hP (Nat.ble_eq.mp hb) (zrun_mono ih F F (Nat.le_refl F) _ _ _ _ _ h)
      · cases h
theorem zcal_up {X : zX} {P : zT} : ∀ (d y : Nat) (as : List zV) (σ : zMem) (r : Option zV × zMem), zcal X P d y as σ = some r → zcal X P (d + 1) y as σ = some r := by
  intro d
  induction d with
  | zero => intro y as σ r h; cases h
  | succ d ih =>
    intro y as σ r h
    obtain ⟨nl, code, n, hP, hl, hn⟩ := zcal_get h
    exact zcal_of hP hl (zrun_mono ih n n (Nat.le_refl n) _ _ _ _ _ hn)
