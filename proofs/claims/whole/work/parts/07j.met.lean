/-! EVERY METHOD: its contract out of the small machine. -/
def zretoks (l : List zMt) (cs : List (List (Nat × (Instr × Nat)))) : Bool := (l.zip cs).all (fun q => q.2.all (fun e => zretok q.1.2.2.2.2.1 e.2.1))
theorem zretoks_0 : zretoks zM_0 zcs_0 = true := by decide +kernel
theorem zretoks_1 : zretoks zM_1 zcs_1 = true := by decide +kernel
theorem zretoks_2 : zretoks zM_2 zcs_2 = true := by decide +kernel
theorem zretoks_3 : zretoks zM_3 zcs_3 = true := by decide +kernel
theorem zretoks_4 : zretoks zM_4 zcs_4 = true := by decide +kernel
theorem zretoks_5 : zretoks zM_5 zcs_5 = true := by decide +kernel
theorem zretoks_6 : zretoks zM_6 zcs_6 = true := by decide +kernel
theorem zretoks_7 : zretoks zM_7 zcs_7 = true := by decide +kernel
theorem zretoks_8 : zretoks zM_8 zcs_8 = true := by decide +kernel
theorem zretoks_9 : zretoks zM_9 zcs_9 = true := by decide +kernel
theorem zgoods_app {a b : List zMt} {c d : List (List (Nat × (Instr × Nat)))} (h : a.length = c.length) (h1 : zgoods a c = true) (h2 : zgoods b d = true) : zgoods (a ++ b) (c ++ d) = true := by
  unfold zgoods at *
  rw [List.zip_append h, List.all_append, h1, h2]
  rfl
theorem zretoks_app {a b : List zMt} {c d : List (List (Nat × (Instr × Nat)))} (h : a.length = c.length) (h1 : zretoks a c = true) (h2 : zretoks b d = true) : zretoks (a ++ b) (c ++ d) = true := by
  unfold zretoks at *
  rw [List.zip_append h, List.all_append, h1, h2]
  rfl
theorem zgoods_ok : zgoods zM zcs = true := zgoods_app rfl zgoods_0 (zgoods_app rfl zgoods_1 (zgoods_app rfl zgoods_2 (zgoods_app rfl zgoods_3 (zgoods_app rfl zgoods_4 (zgoods_app rfl zgoods_5 (zgoods_app rfl zgoods_6 (zgoods_app rfl zgoods_7 (zgoods_app rfl zgoods_8 (zgoods_9)))))))))
theorem zretoks_ok : zretoks zM zcs = true := zretoks_app rfl zretoks_0 (zretoks_app rfl zretoks_1 (zretoks_app rfl zretoks_2 (zretoks_app rfl zretoks_3 (zretoks_app rfl zretoks_4 (zretoks_app rfl zretoks_5 (zretoks_app rfl zretoks_6 (zretoks_app rfl zretoks_7 (zretoks_app rfl zretoks_8 (zretoks_9)))))))))
def zP : zT := fun y => match zM[y]?, zcs[y]? with
  | some q, some c => some (q.2.2.2.1, c)
  | _, _ => none
theorem zP_get {y nl : Nat} {code : List (Nat × (Instr × Nat))} {q : zMt} (hq : zM[y]? = some q) (h : zP y = some (nl, code)) : nl = q.2.2.2.1 ∧ (∀ e ∈ code, zgood q.1 (zmode q) q.2.2.1 e = true) ∧ (∀ e ∈ code, zretok q.2.2.2.2.1 e.2.1 = true) := by
  unfold zP at h
  rw [hq] at h
  cases hc : zcs[y]? with
  | none => rw [hc] at h; cases h
  | some c0 =>
    rw [hc] at h
    cases h
    have hz : (zM.zip zcs)[y]? = some (q, code) := by
      rw [List.getElem?_zip_eq_some]
      exact ⟨hq, hc⟩
    refine ⟨rfl, fun e he => ?_, fun e he => ?_⟩
    · have h1 := List.all_eq_true.mp zgoods_ok _ (List.mem_of_getElem? hz)
      exact List.all_eq_true.mp h1 e he
    · have h1 := List.all_eq_true.mp zretoks_ok _ (List.mem_of_getElem? hz)
      exact List.all_eq_true.mp h1 e he
theorem zargs_sl {pa : Nat → Nat} {ws : va_W} : ∀ {as : List zV} {avs : List Value}, zSR pa ws as avs → (lg_sl avs).length = (zargs as).length ∧ ∀ (i : Nat) (v : zV), (zargs as)[i]? = some (some v) → ∃ w, zVR pa ws v w ∧ (lg_sl avs)[i]? = some (.val w)
  | [], avs, h => by
    rw [show avs = [] from h]
    exact ⟨rfl, fun i v hv => by simp [zargs] at hv⟩
  | v0 :: as, _, ⟨w0, avs, rfl, h1, h2⟩ => by
    obtain ⟨g1, g2⟩ := zargs_sl h2
    have hc := h1.cat
    have key : ∀ (a : zLoc) (b : List Slot), (∃ x, a = [some v0] ++ x ∧ b = [Slot.val w0] ++ (x.map (fun _ => Slot.second)) ∧ ∀ y ∈ x, y = none) → (a ++ zargs as).length = (b ++ lg_sl avs).length ∧ ∀ (i : Nat) (v : zV), (a ++ zargs as)[i]? = some (some v) → ∃ w, zVR pa ws v w ∧ (b ++ lg_sl avs)[i]? = some (.val w) := by
      rintro a b ⟨x, rfl, rfl, hx⟩
      refine ⟨by simp [g1], fun i v hv => ?_⟩
      cases i with
      | zero =>
        have e : v0 = v := by simpa using hv
        subst e
        exact ⟨w0, h1, by simp⟩
      | succ i =>
        have hv' : (x ++ zargs as)[i]? = some (some v) := by simpa using hv
        by_cases hi : i < x.length
        · rw [List.getElem?_append_left hi] at hv'
          have := hx _ (List.mem_of_getElem? hv')
          cases this
        · rw [List.getElem?_append_right (by omega)] at hv'
          obtain ⟨w, k1, k2⟩ := g2 _ _ hv'
          refine ⟨w, k1, ?_⟩
          have : ([Slot.val w0] ++ (x.map (fun _ => Slot.second)) ++ lg_sl avs)[i + 1]? = (x.map (fun _ => Slot.second) ++ lg_sl avs)[i]? := by simp
          rw [this, List.getElem?_append_right (by rw [List.length_map]; omega), List.length_map]
          exact k2
    have e1 : lg_sl (w0 :: avs) = (if w0.category = 2 then [Slot.val w0, Slot.second] else [Slot.val w0]) ++ lg_sl avs := rfl
    rw [e1]
    match v0, h1, hc, key with
    | .inl z, h1, hc, key =>
      have k := key [some (.inl z)] [Slot.val w0] ⟨[], rfl, rfl, fun y hy => by cases hy⟩
      rw [if_neg (by rw [hc]; exact (by decide : ¬ (1 : Nat) = 2))]
      exact ⟨k.1.symm, k.2⟩
    | .inr (.inl z), h1, hc, key =>
      have k := key [some (.inr (.inl z)), none] [Slot.val w0, Slot.second] ⟨[none], rfl, rfl, fun y hy => by simpa using hy⟩
      rw [if_pos (by rw [hc]; rfl)]
      exact ⟨k.1.symm, k.2⟩
    | .inr (.inr z), h1, hc, key =>
      have k := key [some (.inr (.inr z))] [Slot.val w0] ⟨[], rfl, rfl, fun y hy => by cases hy⟩
      rw [if_neg (by rw [hc]; exact (by decide : ¬ (1 : Nat) = 2))]
      exact ⟨k.1.symm, k.2⟩
theorem zinit_len {as : List zV} {nl : Nat} (h : (zargs as).length ≤ nl) : (zinit as nl).length = nl := by
  unfold zinit
  rw [List.length_append, List.length_replicate]
  omega
theorem zLR_init {pa : Nat → Nat} {ws : va_W} {as : List zV} {avs : List Value} {nl : Nat} (h : zSR pa ws as avs) (hl : (zargs as).length ≤ nl) : zLR pa ws (zinit as nl) ((lg_sl avs ++ List.replicate (nl - (lg_sl avs).length) Slot.unset).toArray) := by
  obtain ⟨g1, g2⟩ := zargs_sl h
  have hv := lv_entry avs (n := nl) (by rw [g1]; exact hl)
  refine ⟨by rw [hv.1, zinit_len hl], hv.2.1, fun i v hi => ?_⟩
  unfold zinit at hi
  by_cases hlt : i < (zargs as).length
  · rw [List.getElem?_append_left hlt] at hi
    obtain ⟨w, k1, k2⟩ := g2 i v hi
    refine ⟨w, k1, ?_⟩
    rw [List.getElem?_toArray, List.getElem?_append_left (by rw [g1]; exact hlt)]
    exact k2
  · rw [List.getElem?_append_right (by omega)] at hi
    have := List.eq_of_mem_replicate (List.mem_of_getElem? hi)
    cases this
/-- every method of the small machine is a method of the machine -/
theorem zmet_all {l : Launch} {D : va_G} {A : Nat → Prop} {pa : Nat → Nat} {X : zX} {adV : Nat → Nat} (hstr : zStrOK l A pa X adV) : ∀ d, zMet l D A pa X adV zP d := by
  intro d
  induction d with
  | zero => intro y q as σ r ws hq h; cases h
  | succ d ih =>
    intro y q as σ r ws hq hc
    obtain ⟨nl, code, n, hP0, hlen, hn⟩ := zcal_get hc
    obtain ⟨rfl, hcode, hro⟩ := zP_get hq hP0
    have hF := zM_get hq
    obtain ⟨f1, f2, f3, f4, f5, f6, f7, f8, f9⟩ := hF
    refine Met.ofW (cc := q.2.2.1) (maxL := q.2.2.2.1) (ret := q.2.2.2.2.1) f6 rfl ?_
    intro p e s m args below meth c s₁ B hml hv
    obtain ⟨⟨avs, rfl, hs⟩, ⟨tys, hK, hR⟩, hP, hD, hA, henv⟩ := hv
    have hx := B.exec
    have hb := B.bytes
    have hr := B.returns
    have hlk := B.notSynchronized
    have hts := atoms_spec (ws := zws q) B.pre
    have hown : s.vm.findClass (znm q.1) = some m.cls := by rw [f2]; exact findClass_of_methodNamed B.named
    have hinit : zmode q = 2 → meth.name = "<init>" := by
      intro h2
      have h3 : q.2.2.2.2.2.2.1 = 2 := by
        unfold zmode at h2
        split at h2
        · cases h2
        · split at h2
          · assumption
          · cases h2
      rw [← (f9 h3).1]
      exact (name_of_methodNamed B.named B.method).1
    rw [lg_entry_eq]
    have hl := zLR_init (nl := q.2.2.2.1) hs hlen
    generalize (lg_sl avs ++ List.replicate (q.2.2.2.1 - (lg_sl avs).length) Slot.unset).toArray = mls at hl
    have hret : zRets p l e (headSpec (zws q) (zrm (d + 1) (r.2.2.2.2.1 - σ.2.2.2.1) (r.2.2.2.2.2 - σ.2.2.2.2))).room s m avs.toArray below meth c q.2.2.1 (MQ below (zQc D A pa ws r) avs.toArray s (r.2.2.2.2.1 - σ.2.2.2.1) (r.2.2.2.2.2 - σ.2.2.2.2) A) D A pa ws σ r.2 r.1 q.2.2.2.2.1 := by
      intro ws' tys' H locs mls' pc hK' hR' hP' hD' hS' hxx'
      have post : ∀ (v : Option Value), zVO pa ws' r.1 v → ∀ t : State, t.heap = H → s.WarmedH t.vm → zQc D A pa ws r avs.toArray s (.returned v) t := by
        intro v hvo t ht hW
        exact ⟨v, ws', tys', rfl, hvo, va_K.moved hW.alike hK', hR', by rw [ht]; exact hP', hD', hxx', hS'.F ht⟩
      refine ⟨fun x hx1 hty hd => ?_, fun x hx1 hty hd => ?_, fun z w hz hw hty hd => ?_, fun hn0 hty hd => ?_⟩
      · rcases hty with hty | ⟨hty, hbool⟩
        · exact W.iret (v := x) hx hb (hr.trans hty) (post _ (by rw [hx1]; exact ⟨x, rfl, rfl⟩)) hS'.2.2 hd
        · exact W.zret (v := x) (ty := .boolean) hx hb (hr.trans hty) (zn_bool hbool).1 (post _ (by rw [hx1]; exact ⟨x, rfl, rfl⟩)) hS'.2.2 hd
      · exact W.lret (v := x) hx hb (hr.trans hty) (post _ (by rw [hx1]; exact ⟨x, rfl, rfl⟩)) hS'.2.2 hd
      · obtain ⟨nm, hnm⟩ := hty
        exact W.aret (v := w) (rt := .object nm) hx hb (hr.trans hnm) (Or.inl ⟨nm, rfl⟩) hw.ref (post _ (by rw [hz]; exact hw)) hS'.2.2 hd
      · exact W.vret hx hb (hr.trans hty) (post _ (by rw [hn0]; trivial)) hS'.2.2 hd
    have hz := zsim (ret := q.2.2.2.2.1) (ws0 := ws) (σ0 := σ) (rf := r.2) (rv := r.1) (P := zP) (md := zmode q) (d := d) (own := q.1) hx hb hown hml hts (fun w hw => List.mem_cons_of_mem _ hw) henv hA hstr ih hcode hro hinit (Nat.le_refl _) (Nat.le_refl _) (Nat.le_refl _) (Nat.le_refl _) hret n 0 (zinit as q.2.2.2.1) [] σ (zinit_len hlen) hn
    have h1 := hz.2 ws tys s.heap [] mls [] ⟨Nat.le_refl _, Nat.le_refl _⟩ hK hR hP hD va_S.rf (zext.refl ws) hl rfl
    rw [Nat.sub_self, Nat.sub_self] at h1
    exact h1
