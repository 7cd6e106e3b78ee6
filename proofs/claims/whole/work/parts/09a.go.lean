/-! RUNS WITHOUT A COUNT, to be reckoned with as equations. -/
noncomputable def zgo (X : zX) (C : zC) (code : List (Nat × (Instr × Nat))) : zK := fun pc ls st σ => zlim (fun n => zrun X C code n pc ls st σ)
theorem zgo_of {X : zX} {C : zC} {code : List (Nat × (Instr × Nat))} {n pc : Nat} {ls : zLoc} {st : List zV} {σ : zMem} {r : Option zV × zMem} (h : zrun X C code n pc ls st σ = some r) : zgo X C code pc ls st σ = some r :=
  zlim_of (fun n r h => zrun_mono (fun _ _ _ _ h => h) n (n + 1) (by omega) _ _ _ _ _ h) h
theorem zgo_get {X : zX} {C : zC} {code : List (Nat × (Instr × Nat))} {pc : Nat} {ls : zLoc} {st : List zV} {σ : zMem} {r : Option zV × zMem} (h : zgo X C code pc ls st σ = some r) : ∃ n, zrun X C code n pc ls st σ = some r := zlim_get h
theorem zstep_lim {X : zX} {C : zC} {i : Instr} {ls : zLoc} {st : List zV} {σ : zMem} {nx : Nat} {k : zK} {f : Nat → zK} {r : Option zV × zMem} (hk : ∀ pc ls st σ r, k pc ls st σ = some r → ∃ n, f n pc ls st σ = some r) (h : zstep X C i ls st σ nx k = some r) : ∃ n, zstep X C i ls st σ nx (f n) = some r := by
  cases i
  all_goals simp only [zstep] at h ⊢
  all_goals (repeat' split at h)
  all_goals first
    | (cases h; done)
    | exact hk _ _ _ _ _ h
    | exact ⟨0, h⟩
    | (simp only [*, if_true, if_false, not_true_eq_false, not_false_eq_true, and_self, or_true, true_or] at h ⊢; exact hk _ _ _ _ _ h)
    | (simp only [*, if_true, if_false, not_true_eq_false, not_false_eq_true, and_self, or_true, true_or] at h ⊢; exact ⟨0, h⟩)
    | (obtain ⟨n, h3⟩ := hk _ _ _ _ _ h; exact ⟨n, by rw [if_pos (by assumption)]; exact h3⟩)
    | (obtain ⟨n, h3⟩ := hk _ _ _ _ _ h; exact ⟨n, by rw [if_neg (by assumption)]; exact h3⟩)
    | (exact ⟨0, by rw [if_pos (by assumption)]; exact h⟩)
    | (obtain ⟨n, h3⟩ := hk _ _ _ _ _ h; exact ⟨n, by rw [if_pos (by assumption), if_pos (by assumption)]; exact h3⟩)
    | (obtain ⟨n, h3⟩ := hk _ _ _ _ _ h; exact ⟨n, by rw [if_neg (by assumption), if_pos (by assumption)]; exact h3⟩)
    | (obtain ⟨n, h3⟩ := hk _ _ _ _ _ h
       refine ⟨n, ?_⟩
       clear hk h
       rw [if_neg (by assumption), if_neg (by assumption)]
       simp only [*])
    | (obtain ⟨q, h1, h2⟩ := Option.bind_eq_some_iff.mp h
       obtain ⟨n, h3⟩ := hk _ _ _ _ _ h2
       refine ⟨n, ?_⟩
       simp only [*, if_true, if_false, Option.bind_some]; done)
theorem zgo_step {X : zX} {C : zC} {code : List (Nat × (Instr × Nat))} {pc : Nat} {ls : zLoc} {st : List zV} {σ : zMem} : zgo X C code pc ls st σ = match zfind code pc with
    | none => none
    | some (i, nx) => zstep X C i ls st σ nx (zgo X C code) := by
  cases hl : zgo X C code pc ls st σ with
  | some r =>
    obtain ⟨n, hn⟩ := zgo_get hl
    cases n with
    | zero => cases hn
    | succ n =>
      simp only [zrun] at hn
      cases hf : zfind code pc with
      | none => rw [hf] at hn; cases hn
      | some q =>
        rw [hf] at hn
        exact (zstep_mono (fun _ _ _ _ h => h) (fun pc ls st σ r h => zgo_of h) hn).symm
  | none =>
    cases hf : zfind code pc with
    | none => rfl
    | some q =>
      cases hs : zstep X C q.1 ls st σ q.2 (zgo X C code) with
      | none => exact hs.symm
      | some r =>
        obtain ⟨n, hn⟩ := zstep_lim (f := fun n => zrun X C code n) (fun pc ls st σ r h => zgo_get h) hs
        have h1 : zrun X C code (n + 1) pc ls st σ = some r := by
          simp only [zrun, hf]
          exact hn
        rw [zgo_of h1] at hl
        cases hl
def zcut : List Nat → Nat → Bool
  | [], _ => false
  | a :: l, b => match Nat.beq a b with
    | true => true
    | false => zcut l b
/-- so many steps, up to a place that is cut -/
def zblk (X : zX) (C : zC) (code : List (Nat × (Instr × Nat))) (cut : List Nat) (K : zK) : Nat → zK
  | 0 => fun pc ls st σ => K pc ls st σ
  | n + 1 => fun pc ls st σ => match zfind code pc with
    | none => none
    | some (i, nx) => zstep X C i ls st σ nx (fun pc ls st σ => match zcut cut pc with
      | true => K pc ls st σ
      | false => zblk X C code cut K n pc ls st σ)
theorem zgo_blk {X : zX} {C : zC} {code : List (Nat × (Instr × Nat))} (cut : List Nat) (n : Nat) {pc : Nat} {ls : zLoc} {st : List zV} {σ : zMem} : zgo X C code pc ls st σ = zblk X C code cut (zgo X C code) n pc ls st σ := by
  induction n generalizing pc ls st σ with
  | zero => rfl
  | succ n ih =>
    rw [zgo_step]
    have hk : zgo X C code = (fun pc ls st σ => match zcut cut pc with
      | true => zgo X C code pc ls st σ
      | false => zblk X C code cut (zgo X C code) n pc ls st σ) := by
      funext pc ls st σ
      cases zcut cut pc with
      | true => rfl
      | false => exact ih
    show _ = (match zfind code pc with
      | none => none
      | some (i, nx) => zstep X C i ls st σ nx (fun pc ls st σ => match zcut cut pc with
        | true => zgo X C code pc ls st σ
        | false => zblk X C code cut (zgo X C code) n pc ls st σ))
    rw [← hk]
/-- a call is the run of its code -/
theorem zcal_go {X : zX} {P : zT} {d y nl : Nat} {code : List (Nat × (Instr × Nat))} {as : List zV} {σ : zMem} (hP : P y = some (nl, code)) (hl : Nat.ble (zargs as).length nl = true) : zcal X P (d + 1) y as σ = zgo X (zcal X P d) code 0 (zinit as nl) [] σ := by
  simp only [zcal, hP, hl]
  rfl
def zblkK (X : zX) (C : zC) (code : List (Nat × (Instr × Nat))) (cut : List Nat) (K : zK) (n : Nat) : zK := fun pc ls st σ => match zcut cut pc with
  | true => K pc ls st σ
  | false => zblk X C code cut K n pc ls st σ
theorem zblk_0 {X : zX} {C : zC} {code : List (Nat × (Instr × Nat))} {cut : List Nat} {K : zK} {pc : Nat} {ls : zLoc} {st : List zV} {σ : zMem} : zblk X C code cut K 0 pc ls st σ = K pc ls st σ := rfl
theorem zblk_s {X : zX} {C : zC} {code : List (Nat × (Instr × Nat))} {cut : List Nat} {K : zK} {n pc : Nat} {ls : zLoc} {st : List zV} {σ : zMem} : zblk X C code cut K (n + 1) pc ls st σ = match zfind code pc with
    | none => none
    | some (i, nx) => zstep X C i ls st σ nx (zblkK X C code cut K n) := rfl
theorem zblk_k {X : zX} {C : zC} {code : List (Nat × (Instr × Nat))} {cut : List Nat} {K : zK} {n pc : Nat} {ls : zLoc} {st : List zV} {σ : zMem} : zblkK X C code cut K n pc ls st σ = match zcut cut pc with
    | true => K pc ls st σ
    | false => zblk X C code cut K n pc ls st σ := rfl
