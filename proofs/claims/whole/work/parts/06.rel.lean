/-! THE SMALL MACHINE AND THE MACHINE: how a value, a cell, locals, a stack stand for one another. ws is the world of the kit: cell a of the small heap is its place a - 1. -/
def zRR (ws : va_W) : Nat → Value → Prop
  | 0, w => w = .null
  | b + 1, w => ∃ q, ws[b]? = some q ∧ w = .ref q.1
def zVR (pa : Nat → Nat) (ws : va_W) (v : zV) (w : Value) : Prop := match v with
  | .inl z => ∃ x : Int32, w = .int x ∧ x.toInt = z
  | .inr (.inl z) => ∃ x : Int64, w = .long x ∧ x.toInt = z
  | .inr (.inr (.inl a)) => zRR ws a w
  | .inr (.inr (.inr j)) => w = .ref (pa j)
def zext (ws ws' : va_W) : Prop := ∀ (b : Nat) (q : Nat × va_E), ws[b]? = some q → ∃ q', ws'[b]? = some q' ∧ q'.1 = q.1
theorem zext.refl (ws : va_W) : zext ws ws := fun _ q h => ⟨q, h, rfl⟩
theorem zext.trans {w1 w2 w3 : va_W} (h : zext w1 w2) (h' : zext w2 w3) : zext w1 w3 := fun b q hq => by
  obtain ⟨q', h1, h2⟩ := h b q hq
  obtain ⟨q'', h3, h4⟩ := h' b q' h1
  exact ⟨q'', h3, h4.trans h2⟩
theorem zext.set {ws : va_W} {b a : Nat} {e e' : va_E} (h : ws[b]? = some (a, e)) : zext ws (ws.set b (a, e')) := by
  intro i q hq
  by_cases hi : i = b
  · subst hi
    rw [h] at hq
    cases hq
    exact ⟨(a, e'), by rw [List.getElem?_set_self (List.getElem?_eq_some_iff.mp h).1], rfl⟩
  · exact ⟨q, by rw [List.getElem?_set_ne (Ne.symm hi)]; exact hq, rfl⟩
theorem zext.app (ws l : va_W) : zext ws (ws ++ l) := fun b q hq => ⟨q, by rw [List.getElem?_append_left (List.getElem?_eq_some_iff.mp hq).1]; exact hq, rfl⟩
theorem zRR.mono {ws ws' : va_W} (h : zext ws ws') : ∀ {a : Nat} {w : Value}, zRR ws a w → zRR ws' a w
  | 0, _, hw => hw
  | b + 1, _, ⟨q, h1, h2⟩ => by
    obtain ⟨q', h3, h4⟩ := h b q h1
    exact ⟨q', h3, by rw [h2, h4]⟩
theorem zVR.mono {pa : Nat → Nat} {ws ws' : va_W} (h : zext ws ws') {v : zV} {w : Value} (hw : zVR pa ws v w) : zVR pa ws' v w := by
  match v, hw with
  | .inl z, hw => exact hw
  | .inr (.inl z), hw => exact hw
  | .inr (.inr (.inl a)), hw => exact zRR.mono h hw
  | .inr (.inr (.inr j)), hw => exact hw
theorem zRR.cat {ws : va_W} : ∀ {a : Nat} {w : Value}, zRR ws a w → w.category = 1
  | 0, _, h => by rw [h]; rfl
  | b + 1, _, ⟨q, _, h⟩ => by rw [h]; rfl
theorem zVR.cat {pa : Nat → Nat} {ws : va_W} {v : zV} {w : Value} (h : zVR pa ws v w) : w.category = zcat v := by
  match v, h with
  | .inl z, ⟨x, h, _⟩ => rw [h]; rfl
  | .inr (.inl z), ⟨x, h, _⟩ => rw [h]; rfl
  | .inr (.inr (.inl a)), h => rw [zRR.cat h]; rfl
  | .inr (.inr (.inr j)), h => rw [show w = .ref (pa j) from h]; rfl
/-- a stack -/
def zSR (pa : Nat → Nat) (ws : va_W) : List zV → List Value → Prop
  | [], m => m = []
  | v :: st, m => ∃ w m', m = w :: m' ∧ zVR pa ws v w ∧ zSR pa ws st m'
theorem zSR.mono {pa : Nat → Nat} {ws ws' : va_W} (h : zext ws ws') : ∀ {st : List zV} {m : List Value}, zSR pa ws st m → zSR pa ws' st m
  | [], _, hm => hm
  | v :: st, _, ⟨w, m', h1, h2, h3⟩ => ⟨w, m', h1, h2.mono h, zSR.mono h h3⟩
theorem zSR.sum {pa : Nat → Nat} {ws : va_W} : ∀ {st : List zV} {m : List Value}, zSR pa ws st m → (m.map fun v => v.category).sum = (st.map zcat).sum
  | [], _, hm => by rw [show _ = [] from hm]; rfl
  | v :: st, _, ⟨w, m', h1, h2, h3⟩ => by
    rw [h1, List.map_cons, List.sum_cons, List.map_cons, List.sum_cons, zSR.sum h3, h2.cat]
theorem zSR.app {pa : Nat → Nat} {ws : va_W} : ∀ {st st2 : List zV} {m : List Value}, zSR pa ws (st ++ st2) m → ∃ m1 m2, m = m1 ++ m2 ∧ zSR pa ws st m1 ∧ zSR pa ws st2 m2
  | [], _, m, h => ⟨[], m, rfl, rfl, h⟩
  | v :: st, st2, _, ⟨w, m', h1, h2, h3⟩ => by
    obtain ⟨m1, m2, g1, g2, g3⟩ := zSR.app h3
    exact ⟨w :: m1, m2, by rw [h1, g1]; rfl, ⟨w, m1, rfl, h2, g2⟩, g3⟩
theorem zSR.join {pa : Nat → Nat} {ws : va_W} : ∀ {st st2 : List zV} {m1 m2 : List Value}, zSR pa ws st m1 → zSR pa ws st2 m2 → zSR pa ws (st ++ st2) (m1 ++ m2)
  | [], _, _, m2, h, h2 => by rw [show _ = [] from h]; exact h2
  | v :: st, st2, _, m2, ⟨w, m', h1, h2, h3⟩, h4 => by
    rw [h1]
    exact ⟨w, m' ++ m2, rfl, h2, zSR.join h3 h4⟩
theorem zSR.len {pa : Nat → Nat} {ws : va_W} : ∀ {st : List zV} {m : List Value}, zSR pa ws st m → m.length = st.length
  | [], _, h => by rw [show _ = [] from h]; rfl
  | v :: st, _, ⟨w, m', h1, h2, h3⟩ => by rw [h1, List.length_cons, List.length_cons, zSR.len h3]
theorem zSR.rev {pa : Nat → Nat} {ws : va_W} : ∀ {st : List zV} {m : List Value}, zSR pa ws st m → zSR pa ws st.reverse m.reverse
  | [], _, h => by rw [show _ = [] from h]; rfl
  | v :: st, _, ⟨w, m', h1, h2, h3⟩ => by
    rw [h1, List.reverse_cons, List.reverse_cons]
    exact zSR.join (zSR.rev h3) ⟨w, [], rfl, h2, rfl⟩
/-- locals -/
def zLR (pa : Nat → Nat) (ws : va_W) (ls : zLoc) (m : Array Slot) : Prop := m.size = ls.length ∧ lv_wf m ∧ ∀ (i : Nat) (v : zV), ls[i]? = some (some v) → ∃ w, zVR pa ws v w ∧ m[i]? = some (.val w)
theorem zLR.mono {pa : Nat → Nat} {ws ws' : va_W} (h : zext ws ws') {ls : zLoc} {m : Array Slot} (hl : zLR pa ws ls m) : zLR pa ws' ls m := ⟨hl.1, hl.2.1, fun i v hv => by
  obtain ⟨w, h1, h2⟩ := hl.2.2 i v hv
  exact ⟨w, h1.mono h, h2⟩⟩
/-- all that the locals hold -/
def zfull (m : Array Slot) : List (Nat × Value) := (List.range m.size).filterMap (fun j => match (m[j]? : Option Slot) with
  | some (Slot.val w) => some (j, w)
  | _ => none)
theorem zfull_mem {m : Array Slot} {q : Nat × Value} : q ∈ zfull m ↔ m[q.1]? = some (.val q.2) := by
  unfold zfull
  rw [List.mem_filterMap]
  constructor
  · rintro ⟨j, -, h⟩
    split at h
    · next w hw => cases h; exact hw
    · cases h
  · intro h
    refine ⟨q.1, List.mem_range.mpr (Array.getElem?_eq_some_iff.mp h).1, ?_⟩
    rw [h]
theorem zLR.has {pa : Nat → Nat} {ws : va_W} {ls : zLoc} {m : Array Slot} (h : zLR pa ws ls m) : lv_has m ls.length (zfull m) := ⟨h.1, h.2.1, fun q hq => zfull_mem.mp hq⟩
theorem zkill_len (ls : zLoc) (i : Nat) : (zkill ls i).length = ls.length := by
  unfold zkill
  split
  · rfl
  · split
    · simp
    · rfl
theorem zkill_get {ls : zLoc} {i j : Nat} {v : zV} (h : (zkill ls i)[j]? = some (some v)) : ls[j]? = some (some v) ∧ ¬ (j + 1 = i ∧ zcat v = 2) := by
  unfold zkill at h
  split at h
  · exact ⟨h, fun q => by omega⟩
  · next j0 =>
    split at h
    · next z hz =>
      by_cases e : j = j0
      · subst e
        rw [List.getElem?_set_self (List.getElem?_eq_some_iff.mp hz).1] at h
        cases h
      · rw [List.getElem?_set_ne (Ne.symm e)] at h
        exact ⟨h, fun q => e (by omega)⟩
    · next hz =>
      refine ⟨h, fun q => ?_⟩
      have e : j = j0 := by omega
      subst e
      match v, q.2 with
      | .inr (.inl z), _ => exact hz z h
/-- storing a value of one word -/
theorem zLR.put1 {pa : Nat → Nat} {ws : va_W} {ls : zLoc} {m m' : Array Slot} {i : Nat} {v : zV} {w : Value} (h : zLR pa ws ls m) (hi : i < ls.length) (hv : zVR pa ws v w) (h' : lv_has m' ls.length ((i, w) :: (zfull m).filter (fun q => !(q.1 == i) && !(q.1 + 1 == i && q.2.category == 2)))) : zLR pa ws ((zkill ls i).set i (some v)) m' := by
  refine ⟨by rw [List.length_set, zkill_len]; exact h'.1, h'.2.1, fun j u hu => ?_⟩
  by_cases e : j = i
  · subst e
    rw [List.getElem?_set_self (by rw [zkill_len]; exact hi)] at hu
    cases hu
    exact ⟨w, hv, h'.2.2 (j, w) List.mem_cons_self⟩
  · rw [List.getElem?_set_ne (Ne.symm e)] at hu
    obtain ⟨h1, h2⟩ := zkill_get hu
    obtain ⟨w', h3, h4⟩ := h.2.2 j u h1
    refine ⟨w', h3, h'.2.2 (j, w') (List.mem_cons_of_mem _ (List.mem_filter.mpr ⟨zfull_mem.mpr h4, ?_⟩))⟩
    have hc := h3.cat
    simp only [Bool.and_eq_true, Bool.not_eq_true', beq_eq_false_iff_ne, ne_eq, Bool.and_eq_false_iff]
    refine ⟨e, ?_⟩
    by_cases e2 : j + 1 = i
    · exact Or.inr (fun q => h2 ⟨e2, by rw [← hc]; exact q⟩)
    · exact Or.inl e2
theorem zLR.put2 {pa : Nat → Nat} {ws : va_W} {ls : zLoc} {m m' : Array Slot} {i : Nat} {v : zV} {w : Value} (h : zLR pa ws ls m) (hi : i + 1 < ls.length) (hv : zVR pa ws v w) (h' : lv_has m' ls.length ((i, w) :: (zfull m).filter (fun q => !(q.1 == i) && (!(q.1 == i + 1) && !(q.1 + 1 == i && q.2.category == 2))))) : zLR pa ws (((zkill ls i).set i (some v)).set (i + 1) none) m' := by
  refine ⟨by rw [List.length_set, List.length_set, zkill_len]; exact h'.1, h'.2.1, fun j u hu => ?_⟩
  by_cases e0 : j = i + 1
  · subst e0
    rw [List.getElem?_set_self (by rw [List.length_set, zkill_len]; exact hi)] at hu
    cases hu
  rw [List.getElem?_set_ne (Ne.symm e0)] at hu
  by_cases e : j = i
  · subst e
    rw [List.getElem?_set_self (by rw [zkill_len]; omega)] at hu
    cases hu
    exact ⟨w, hv, h'.2.2 (j, w) List.mem_cons_self⟩
  · rw [List.getElem?_set_ne (Ne.symm e)] at hu
    obtain ⟨h1, h2⟩ := zkill_get hu
    obtain ⟨w', h3, h4⟩ := h.2.2 j u h1
    refine ⟨w', h3, h'.2.2 (j, w') (List.mem_cons_of_mem _ (List.mem_filter.mpr ⟨zfull_mem.mpr h4, ?_⟩))⟩
    have hc := h3.cat
    simp only [Bool.and_eq_true, Bool.not_eq_true', beq_eq_false_iff_ne, ne_eq, Bool.and_eq_false_iff]
    refine ⟨e, e0, ?_⟩
    by_cases e2 : j + 1 = i
    · exact Or.inr (fun q => h2 ⟨e2, by rw [← hc]; exact q⟩)
    · exact Or.inl e2
/-- what a field holds, by its type -/
def zFR (ws : va_W) (t : FieldType) (i : Int) (r : Nat) (w : Value) : Prop := match t with
  | .int => ∃ x : Int32, w = .int x ∧ x.toInt = i
  | .boolean => ∃ x : Int32, w = .int x ∧ x.toInt = i
  | .long => ∃ x : Int64, w = .long x ∧ x.toInt = i
  | _ => zRR ws r w
theorem zFR.mono {ws ws' : va_W} (h : zext ws ws') {t : FieldType} {i : Int} {r : Nat} {w : Value} (hw : zFR ws t i r w) : zFR ws' t i r w := by
  cases t <;> first | exact hw | exact zRR.mono h hw
/-- what a cell holds, by its kind -/
def zCR (ws : va_W) (tys : List (ClassId × FieldType)) (k : Nat × (Nat × Nat)) (I : Nat → Int) (R : Nat → Nat) (e : va_E) : Prop := match k.1 with
  | 0 => True
  | 1 => k.2.1 < 11 ∧ ∃ fs : List Value, e = .inr (k.2.1, fs) ∧ fs.length = znf k.2.1 ∧ ∀ (j : Nat) (v : Value), fs[j]? = some v → zFR ws (zty k.2.1 j) (I j) (R j) v
  | 2 => ∃ (t : Nat) (cA : ClassId) (f : Nat → Int32), tys[t]? = some (cA, .int) ∧ e = .inl (cA, (k.2.1, .inl f)) ∧ ∀ j, j < k.2.1 → (f j).toInt = I j
  | 3 => ∃ (t : Nat) (cA : ClassId) (f : Nat → Int64), tys[t]? = some (cA, .long) ∧ e = .inl (cA, (k.2.1, .inr (.inl f))) ∧ ∀ j, j < k.2.1 → (f j).toInt = I j
  | 4 => ∃ (t : Nat) (cA : ClassId) (f : Nat → Int32), tys[t]? = some (cA, .byte) ∧ e = .inl (cA, (k.2.1, .inl f)) ∧ ∀ j, j < k.2.1 → (f j).toInt = I j
  | 5 => ∃ (t : Nat) (cA : ClassId) (f : Nat → Option Nat), tys[t]? = some (cA, .object (znm k.2.2)) ∧ e = .inl (cA, (k.2.1, .inr (.inr (.inr (.inr f))))) ∧ ∀ j, j < k.2.1 → zRR ws (R j) (va_rf (f j))
  | 6 => ∃ (t : Nat) (cA : ClassId) (f : Nat → Option Nat), tys[t]? = some (cA, .array .long) ∧ e = .inl (cA, (k.2.1, .inr (.inr (.inr (.inr f))))) ∧ ∀ j, j < k.2.1 → zRR ws (R j) (va_rf (f j))
  | _ => False
theorem zCR.mono {ws ws' : va_W} {tys tys' : List (ClassId × FieldType)} (h : zext ws ws') (ht : ∀ (t : Nat) (q : ClassId × FieldType), tys[t]? = some q → tys'[t]? = some q) {k : Nat × (Nat × Nat)} {I : Nat → Int} {R : Nat → Nat} {e : va_E} (hc : zCR ws tys k I R e) : zCR ws' tys' k I R e := by
  unfold zCR at hc ⊢
  split at hc
  · trivial
  · obtain ⟨h0, fs, h1, h2, h3⟩ := hc
    exact ⟨h0, fs, h1, h2, fun j v hv => (h3 j v hv).mono h⟩
  · obtain ⟨t, cA, f, h1, h2⟩ := hc
    exact ⟨t, cA, f, ht _ _ h1, h2⟩
  · obtain ⟨t, cA, f, h1, h2⟩ := hc
    exact ⟨t, cA, f, ht _ _ h1, h2⟩
  · obtain ⟨t, cA, f, h1, h2⟩ := hc
    exact ⟨t, cA, f, ht _ _ h1, h2⟩
  · obtain ⟨t, cA, f, h1, h2, h3⟩ := hc
    exact ⟨t, cA, f, ht _ _ h1, h2, fun j hj => zRR.mono h (h3 j hj)⟩
  · obtain ⟨t, cA, f, h1, h2, h3⟩ := hc
    exact ⟨t, cA, f, ht _ _ h1, h2, fun j hj => zRR.mono h (h3 j hj)⟩
  · exact hc
/-- the heap -/
def zRel (σ : zMem) (ws : va_W) (tys : List (ClassId × FieldType)) : Prop := ws.length = σ.2.2.2.1 ∧ σ.2.2.1 0 = (0, (0, 0)) ∧ ∀ (b : Nat) (q : Nat × va_E), ws[b]? = some q → zCR ws tys (σ.2.2.1 (b + 1)) (σ.1 (b + 1)) (σ.2.1 (b + 1)) q.2
/-- one number of a cell is changed -/
theorem zRel.setI {σ : zMem} {ws : va_W} {tys : List (ClassId × FieldType)} {b a j : Nat} {e e' : va_E} {v : Int} (h : zRel σ ws tys) (hb : ws[b]? = some (a, e)) (hc : zCR ws tys (σ.2.2.1 (b + 1)) (fun j' => if j' = j then v else σ.1 (b + 1) j') (σ.2.1 (b + 1)) e') : zRel (zw σ (b + 1) j v) (ws.set b (a, e')) tys := by
  refine ⟨by rw [List.length_set]; exact h.1, h.2.1, fun b' q hq => ?_⟩
  have hx := zext.set (e' := e') hb
  by_cases hbb : b' = b
  · subst hbb
    rw [List.getElem?_set_self (List.getElem?_eq_some_iff.mp hb).1] at hq
    cases hq
    have := hc.mono hx (fun _ _ h => h)
    simpa [zw] using this
  · rw [List.getElem?_set_ne (Ne.symm hbb)] at hq
    have := (h.2.2 b' q hq).mono hx (fun _ _ h => h)
    have e1 : (zw σ (b + 1) j v).1 (b' + 1) = σ.1 (b' + 1) := by
      funext j'
      show (if b' + 1 = b + 1 ∧ j' = j then v else σ.1 (b' + 1) j') = _
      rw [if_neg (fun q => hbb (by omega))]
    rw [e1]
    exact this
theorem zRel.setR {σ : zMem} {ws : va_W} {tys : List (ClassId × FieldType)} {b a j : Nat} {e e' : va_E} {v : Nat} (h : zRel σ ws tys) (hb : ws[b]? = some (a, e)) (hc : zCR ws tys (σ.2.2.1 (b + 1)) (σ.1 (b + 1)) (fun j' => if j' = j then v else σ.2.1 (b + 1) j') e') : zRel (zwr σ (b + 1) j v) (ws.set b (a, e')) tys := by
  refine ⟨by rw [List.length_set]; exact h.1, h.2.1, fun b' q hq => ?_⟩
  have hx := zext.set (e' := e') hb
  by_cases hbb : b' = b
  · subst hbb
    rw [List.getElem?_set_self (List.getElem?_eq_some_iff.mp hb).1] at hq
    cases hq
    have := hc.mono hx (fun _ _ h => h)
    simpa [zwr] using this
  · rw [List.getElem?_set_ne (Ne.symm hbb)] at hq
    have := (h.2.2 b' q hq).mono hx (fun _ _ h => h)
    have e1 : (zwr σ (b + 1) j v).2.1 (b' + 1) = σ.2.1 (b' + 1) := by
      funext j'
      show (if b' + 1 = b + 1 ∧ j' = j then v else σ.2.1 (b' + 1) j') = _
      rw [if_neg (fun q => hbb (by omega))]
    rw [e1]
    exact this
/-- a cell more -/
theorem zRel.make {σ : zMem} {ws : va_W} {tys tys' : List (ClassId × FieldType)} {a n : Nat} {e : va_E} {k : Nat × (Nat × Nat)} (h : zRel σ ws tys) (ht : ∀ (t : Nat) (q : ClassId × FieldType), tys[t]? = some q → tys'[t]? = some q) (hc : zCR (ws ++ [(a, e)]) tys' k (fun _ => 0) (fun _ => 0) e) : zRel (zmake σ k n) (ws ++ [(a, e)]) tys' := by
  refine ⟨by rw [List.length_append, h.1]; rfl, ?_, fun b q hq => ?_⟩
  · show (if 0 = σ.2.2.2.1 + 1 then k else σ.2.2.1 0) = _
    rw [if_neg (by omega)]
    exact h.2.1
  · by_cases hb : b < ws.length
    · rw [List.getElem?_append_left hb] at hq
      have h1 := (h.2.2 b q hq).mono (zext.app ws [(a, e)]) ht
      have hne : ¬ b + 1 = σ.2.2.2.1 + 1 := by rw [← h.1]; omega
      have e1 : (zmake σ k n).1 (b + 1) = σ.1 (b + 1) := by funext j; show (if b + 1 = σ.2.2.2.1 + 1 then 0 else σ.1 (b + 1) j) = _; rw [if_neg hne]
      have e2 : (zmake σ k n).2.1 (b + 1) = σ.2.1 (b + 1) := by funext j; show (if b + 1 = σ.2.2.2.1 + 1 then 0 else σ.2.1 (b + 1) j) = _; rw [if_neg hne]
      have e3 : (zmake σ k n).2.2.1 (b + 1) = σ.2.2.1 (b + 1) := by show (if b + 1 = σ.2.2.2.1 + 1 then k else σ.2.2.1 (b + 1)) = _; rw [if_neg hne]
      rw [e1, e2, e3]
      exact h1
    · rw [List.getElem?_append_right (by omega)] at hq
      have h0 : b - ws.length < 1 := (List.getElem?_eq_some_iff.mp hq).1
      have hbe : b = ws.length := by omega
      subst hbe
      rw [Nat.sub_self] at hq
      cases hq
      have hne : ws.length + 1 = σ.2.2.2.1 + 1 := by rw [← h.1]
      have e1 : (zmake σ k n).1 (ws.length + 1) = fun _ => 0 := by funext j; show (if ws.length + 1 = σ.2.2.2.1 + 1 then 0 else σ.1 _ j) = _; rw [if_pos hne]
      have e2 : (zmake σ k n).2.1 (ws.length + 1) = fun _ => 0 := by funext j; show (if ws.length + 1 = σ.2.2.2.1 + 1 then 0 else σ.2.1 _ j) = _; rw [if_pos hne]
      have e3 : (zmake σ k n).2.2.1 (ws.length + 1) = k := by show (if ws.length + 1 = σ.2.2.2.1 + 1 then k else σ.2.2.1 _) = _; rw [if_pos hne]
      rw [e1, e2, e3]
      exact hc
/-- what a reference's cell is -/
theorem zRel.at {σ : zMem} {ws : va_W} {tys : List (ClassId × FieldType)} {a : Nat} {w : Value} (h : zRel σ ws tys) (hw : zRR ws a w) (hk : ¬ (σ.2.2.1 a).1 = 0) : ∃ b q e, a = b + 1 ∧ ws[b]? = some (q, e) ∧ w = .ref q ∧ zCR ws tys (σ.2.2.1 (b + 1)) (σ.1 (b + 1)) (σ.2.1 (b + 1)) e := by
  match a, hw with
  | 0, _ => exact absurd (by rw [h.2.1]) hk
  | b + 1, ⟨q, h1, h2⟩ => exact ⟨b, q.1, q.2, rfl, h1, h2, h.2.2 b q h1⟩
