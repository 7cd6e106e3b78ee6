/-! ONE STEP OF THE SMALL MACHINE IS ONE INSTRUCTION OF THE MACHINE: rows, new cells. -/
theorem zidx {x : Int32} {n : Nat} (h : 0 ≤ x.toInt ∧ x.toInt < n) : vp_in x n ∧ x.toNatClampNeg = x.toInt.toNat ∧ x.toInt.toNat < n := ⟨zn_vpin h.1 h.2, rfl, by omega⟩
section ZOPS4
variable {p : Program} {l : Launch} {e : Env} {R : Room} {s : State} {m : MethodId} {args : Array Value} {below : List Frame} {meth : Method} {c : Code} {cc : ByteArray} {Q : State → Prop} {D : va_G} {A : Nat → Prop} {pa : Nat → Nat} {ws0 : va_W} {σ0 rf : zMem}
variable {pc nx : Nat} {ls : zLoc} {st : List zV} {σ : zMem} {k : zK} {X : zX} {C : zC} {rv : Option zV}
/-- what a thing that was there before answers to an index: the script, the static rows -/
def zPre (p : Program) (l : Launch) (e : Env) (R : Room) (s : State) (m : MethodId) (args : Array Value) (below : List Frame) (meth : Method) (c : Code) (cc : ByteArray) (Q : State → Prop) (A : Nat → Prop) (pa : Nat → Nat) (X : zX) : Prop := ∀ (j : Nat) (H : Heap) (locs : List Loc) (cells slots pc : Nat) (mls : Array Slot) (rest : List Value), va_S A s.heap H locs →
  j < 4 → (∀ (i : Int32), 0 ≤ i.toInt → i.toInt < (X j).1 → decode cc pc = .ok (.iaload, 1) → (∀ x : Int32, x.toInt = (X j).2 i.toInt.toNat → W p l e R s m args below meth c H locs cells slots Q (F0 m (pc + 1) mls (.int x :: rest))) → W p l e R s m args below meth c H locs cells slots Q (F0 m pc mls (.int i :: .ref (pa j) :: rest))) ∧
  (decode cc pc = .ok (.arraylength, 1) → (∀ x : Int32, x.toInt = (X j).1 → W p l e R s m args below meth c H locs cells slots Q (F0 m (pc + 1) mls (.int x :: rest))) → W p l e R s m args below meth c H locs cells slots Q (F0 m pc mls (.ref (pa j) :: rest)))
theorem zs_iaload (hx : p.tables.exec = Jvm.exec) (hb : c.code = cc) (hpre : zPre p l e R s m args below meth c cc Q A pa X) (hd : decode cc pc = .ok (.iaload, 1)) (hk : ∀ pc ls st σ, k pc ls st σ = some (rv, rf) → zG p l e R s m args below meth c Q D A pa ws0 σ0 rf pc ls st σ) (h : zstep X C .iaload ls st σ (pc + 1) k = some (rv, rf)) : zG p l e R s m args below meth c Q D A pa ws0 σ0 rf pc ls st σ := by
  simp only [zstep] at h
  split at h
  · next i a r =>
    split at h
    · next hc =>
      obtain ⟨hc1, hc2, hc3⟩ := hc
      have hz := hk _ _ _ _ h
      refine ⟨hz.1, fun ws tys H locs mls mst hn hK hR hP hD hS hxx hl hst => ?_⟩
      obtain ⟨_, _, rfl, ⟨x, rfl, rfl⟩, w0, m2, rfl, hw0, hst⟩ := hst
      obtain ⟨b, q, e, rfl, hb1, rfl, hcr⟩ := hR.at hw0 (by rw [hc1]; decide)
      simp only [zCR, hc1] at hcr
      obtain ⟨t, cA, f, ht, rfl, hf⟩ := hcr
      obtain ⟨i1, i2, i3⟩ := zidx ⟨hc2, hc3⟩
      refine va_iald hx hb hK hP b t hb1 ht i1 hd (hz.2 ws tys H locs mls _ hn hK hR hP hD hS hxx hl (zSR_int ?_ hst))
      rw [i2]
      exact hf _ i3
    · cases h
  · next i j r =>
    split at h
    · next hc =>
      have hz := hk _ _ _ _ h
      refine ⟨hz.1, fun ws tys H locs mls mst hn hK hR hP hD hS hxx hl hst => ?_⟩
      obtain ⟨_, _, rfl, ⟨x, rfl, rfl⟩, w0, m2, rfl, rfl, hst⟩ := hst
      exact (hpre j H locs _ _ pc mls m2 hS hc.1).1 x hc.2.1 hc.2.2 hd (fun y hy => hz.2 ws tys H locs mls _ hn hK hR hP hD hS hxx hl (zSR_int hy hst))
    · cases h
  · cases h
theorem zs_arraylength (hx : p.tables.exec = Jvm.exec) (hb : c.code = cc) (hpre : zPre p l e R s m args below meth c cc Q A pa X) (hd : decode cc pc = .ok (.arraylength, 1)) (hk : ∀ pc ls st σ, k pc ls st σ = some (rv, rf) → zG p l e R s m args below meth c Q D A pa ws0 σ0 rf pc ls st σ) (h : zstep X C .arraylength ls st σ (pc + 1) k = some (rv, rf)) : zG p l e R s m args below meth c Q D A pa ws0 σ0 rf pc ls st σ := by
  simp only [zstep] at h
  split at h
  · next j r =>
    split at h
    · next hj =>
      have hz := hk _ _ _ _ h
      refine ⟨hz.1, fun ws tys H locs mls mst hn hK hR hP hD hS hxx hl hst => ?_⟩
      obtain ⟨w0, m2, rfl, rfl, hst⟩ := hst
      exact (hpre j H locs _ _ pc mls m2 hS hj).2 hd (fun y hy => hz.2 ws tys H locs mls _ hn hK hR hP hD hS hxx hl (zSR_int hy hst))
    · cases h
  · cases h
theorem zs_laload (hx : p.tables.exec = Jvm.exec) (hb : c.code = cc) (hd : decode cc pc = .ok (.laload, 1)) (hk : ∀ pc ls st σ, k pc ls st σ = some (rv, rf) → zG p l e R s m args below meth c Q D A pa ws0 σ0 rf pc ls st σ) (h : zstep X C .laload ls st σ (pc + 1) k = some (rv, rf)) : zG p l e R s m args below meth c Q D A pa ws0 σ0 rf pc ls st σ := by
  simp only [zstep] at h
  split at h
  · next i a r =>
    split at h
    · next hc =>
      obtain ⟨hc1, hc2, hc3⟩ := hc
      have hz := hk _ _ _ _ h
      refine ⟨hz.1, fun ws tys H locs mls mst hn hK hR hP hD hS hxx hl hst => ?_⟩
      obtain ⟨_, _, rfl, ⟨x, rfl, rfl⟩, w0, m2, rfl, hw0, hst⟩ := hst
      obtain ⟨b, q, e, rfl, hb1, rfl, hcr⟩ := hR.at hw0 (by rw [hc1]; decide)
      simp only [zCR, hc1] at hcr
      obtain ⟨t, cA, f, ht, rfl, hf⟩ := hcr
      obtain ⟨i1, i2, i3⟩ := zidx ⟨hc2, hc3⟩
      refine va_lald hx hb hK hP b t hb1 ht i1 hd (hz.2 ws tys H locs mls _ hn hK hR hP hD hS hxx hl (zSR_long ?_ hst))
      rw [i2]
      exact hf _ i3
    · cases h
  · cases h
theorem zs_baload (hx : p.tables.exec = Jvm.exec) (hb : c.code = cc) (hd : decode cc pc = .ok (.baload, 1)) (hk : ∀ pc ls st σ, k pc ls st σ = some (rv, rf) → zG p l e R s m args below meth c Q D A pa ws0 σ0 rf pc ls st σ) (h : zstep X C .baload ls st σ (pc + 1) k = some (rv, rf)) : zG p l e R s m args below meth c Q D A pa ws0 σ0 rf pc ls st σ := by
  simp only [zstep] at h
  split at h
  · next i a r =>
    split at h
    · next hc =>
      obtain ⟨hc1, hc2, hc3⟩ := hc
      have hz := hk _ _ _ _ h
      refine ⟨hz.1, fun ws tys H locs mls mst hn hK hR hP hD hS hxx hl hst => ?_⟩
      obtain ⟨_, _, rfl, ⟨x, rfl, rfl⟩, w0, m2, rfl, hw0, hst⟩ := hst
      obtain ⟨b, q, e, rfl, hb1, rfl, hcr⟩ := hR.at hw0 (by rw [hc1]; decide)
      simp only [zCR, hc1] at hcr
      obtain ⟨t, cA, f, ht, rfl, hf⟩ := hcr
      obtain ⟨i1, i2, i3⟩ := zidx ⟨hc2, hc3⟩
      refine va_bald hx hb hK hP b t hb1 ht i1 hd (hz.2 ws tys H locs mls _ hn hK hR hP hD hS hxx hl (zSR_int ?_ hst))
      rw [i2]
      exact hf _ i3
    · cases h
  · cases h
theorem zs_aaload (hx : p.tables.exec = Jvm.exec) (hb : c.code = cc) (hd : decode cc pc = .ok (.aaload, 1)) (hk : ∀ pc ls st σ, k pc ls st σ = some (rv, rf) → zG p l e R s m args below meth c Q D A pa ws0 σ0 rf pc ls st σ) (h : zstep X C .aaload ls st σ (pc + 1) k = some (rv, rf)) : zG p l e R s m args below meth c Q D A pa ws0 σ0 rf pc ls st σ := by
  simp only [zstep] at h
  split at h
  · next i a r =>
    split at h
    · next hc =>
      obtain ⟨hc1, hc2, hc3⟩ := hc
      have hz := hk _ _ _ _ h
      refine ⟨hz.1, fun ws tys H locs mls mst hn hK hR hP hD hS hxx hl hst => ?_⟩
      obtain ⟨_, _, rfl, ⟨x, rfl, rfl⟩, w0, m2, rfl, hw0, hst⟩ := hst
      obtain ⟨b, q, e, rfl, hb1, rfl, hcr⟩ := hR.at hw0 (by rcases hc1 with hc1 | hc1 <;> (rw [hc1]; decide))
      obtain ⟨i1, i2, i3⟩ := zidx ⟨hc2, hc3⟩
      have key : ∃ (t : Nat) (cA : ClassId) (f : Nat → Option Nat) (ty : FieldType), ty.isReference = true ∧ tys[t]? = some (cA, ty) ∧ e = .inl (cA, ((σ.2.2.1 (b + 1)).2.1, .inr (.inr (.inr (.inr f))))) ∧ ∀ j, j < (σ.2.2.1 (b + 1)).2.1 → zRR ws (σ.2.1 (b + 1) j) (va_rf (f j)) := by
        rcases hc1 with hc1 | hc1
        · simp only [zCR, hc1] at hcr
          obtain ⟨t, cA, f, ht, he, hf⟩ := hcr
          exact ⟨t, cA, f, _, rfl, ht, he, hf⟩
        · simp only [zCR, hc1] at hcr
          obtain ⟨t, cA, f, ht, he, hf⟩ := hcr
          exact ⟨t, cA, f, _, rfl, ht, he, hf⟩
      obtain ⟨t, cA, f, ty, hty, ht, rfl, hf⟩ := key
      have hlt : x.toNatClampNeg < (σ.2.2.1 (b + 1)).2.1 := by rw [i2]; exact i3
      exact W.aald (v := va_rf (f x.toNatClampNeg)) (ty := ty) hx hb (hP b _ hb1) ((hK.2 t _ ht).1 (σ.2.2.1 (b + 1)).2.1 (fun j => va_rf (f j))) hty (fun q => by cases q) (by show ¬ (x < 0 ∨ (arrV _ _ _).slots.size ≤ _); rw [arrV_size]; exact i1) (by show (arrV _ _ _).slots[_]? = _; rw [arrV_read _ _ hlt]) rfl rfl hd (hz.2 ws tys H locs mls _ hn hK hR hP hD hS hxx hl ⟨_, _, rfl, hf _ i3, hst⟩)
    · cases h
  · cases h
theorem zupd_int {f : Nat → Int32} {I : Nat → Int} {n i : Nat} {x : Int32} (hf : ∀ j, j < n → (f j).toInt = I j) : ∀ j, j < n → (upd f i x j).toInt = if j = i then x.toInt else I j := by
  intro j hj
  unfold upd
  by_cases e : j = i
  · subst e; simp
  · simp [e, hf j hj]
theorem zs_iastore (hx : p.tables.exec = Jvm.exec) (hb : c.code = cc) (hd : decode cc pc = .ok (.iastore, 1)) (hk : ∀ pc ls st σ, k pc ls st σ = some (rv, rf) → zG p l e R s m args below meth c Q D A pa ws0 σ0 rf pc ls st σ) (h : zstep X C .iastore ls st σ (pc + 1) k = some (rv, rf)) : zG p l e R s m args below meth c Q D A pa ws0 σ0 rf pc ls st σ := by
  simp only [zstep] at h
  split at h
  · next v i a r =>
    split at h
    · next hc =>
      obtain ⟨hc1, hc2, hc3⟩ := hc
      have hz := hk _ _ _ _ h
      refine ⟨hz.1, fun ws tys H locs mls mst hn hK hR hP hD hS hxx hl hst => ?_⟩
      obtain ⟨_, _, rfl, ⟨y, rfl, rfl⟩, _, _, rfl, ⟨x, rfl, rfl⟩, w0, m2, rfl, hw0, hst⟩ := hst
      obtain ⟨b, q, e, rfl, hb1, rfl, hcr⟩ := hR.at hw0 (by rw [hc1]; decide)
      simp only [zCR, hc1] at hcr
      obtain ⟨t, cA, f, ht, rfl, hf⟩ := hcr
      obtain ⟨i1, i2, i3⟩ := zidx ⟨hc2, hc3⟩
      refine va_iast hx hb hK hP hD hS b t hb1 ht i1 hd (fun H1 locs1 hP1 hD1 hS1 => ?_)
      have hx1 := zext.set (e' := .inl (cA, ((σ.2.2.1 (b + 1)).2.1, .inl (upd f x.toNatClampNeg y)))) hb1
      refine hz.2 _ tys H1 locs1 mls m2 hn hK (hR.setI hb1 ?_) hP1 hD1 hS1 (hxx.trans hx1) (hl.mono hx1) (hst.mono hx1)
      simp only [zCR, hc1]
      exact ⟨t, cA, _, ht, rfl, zupd_int hf⟩
    · cases h
  · cases h
theorem zs_lastore (hx : p.tables.exec = Jvm.exec) (hb : c.code = cc) (hd : decode cc pc = .ok (.lastore, 1)) (hk : ∀ pc ls st σ, k pc ls st σ = some (rv, rf) → zG p l e R s m args below meth c Q D A pa ws0 σ0 rf pc ls st σ) (h : zstep X C .lastore ls st σ (pc + 1) k = some (rv, rf)) : zG p l e R s m args below meth c Q D A pa ws0 σ0 rf pc ls st σ := by
  simp only [zstep] at h
  split at h
  · next v i a r =>
    split at h
    · next hc =>
      obtain ⟨hc1, hc2, hc3⟩ := hc
      have hz := hk _ _ _ _ h
      refine ⟨hz.1, fun ws tys H locs mls mst hn hK hR hP hD hS hxx hl hst => ?_⟩
      obtain ⟨_, _, rfl, ⟨y, rfl, rfl⟩, _, _, rfl, ⟨x, rfl, rfl⟩, w0, m2, rfl, hw0, hst⟩ := hst
      obtain ⟨b, q, e, rfl, hb1, rfl, hcr⟩ := hR.at hw0 (by rw [hc1]; decide)
      simp only [zCR, hc1] at hcr
      obtain ⟨t, cA, f, ht, rfl, hf⟩ := hcr
      obtain ⟨i1, i2, i3⟩ := zidx ⟨hc2, hc3⟩
      refine va_last hx hb hK hP hD hS b t hb1 ht i1 hd (fun H1 locs1 hP1 hD1 hS1 => ?_)
      have hx1 := zext.set (e' := .inl (cA, ((σ.2.2.1 (b + 1)).2.1, .inr (.inl (vp_updL f x.toNatClampNeg y))))) hb1
      refine hz.2 _ tys H1 locs1 mls m2 hn hK (hR.setI hb1 ?_) hP1 hD1 hS1 (hxx.trans hx1) (hl.mono hx1) (hst.mono hx1)
      simp only [zCR, hc1]
      refine ⟨t, cA, _, ht, rfl, fun j hj => ?_⟩
      unfold vp_updL
      rw [i2]
      by_cases e : j = x.toInt.toNat
      · rw [if_pos e, if_pos e]
      · rw [if_neg e, if_neg e]; exact hf j hj
    · cases h
  · cases h
theorem zs_bastore (hx : p.tables.exec = Jvm.exec) (hb : c.code = cc) (hd : decode cc pc = .ok (.bastore, 1)) (hk : ∀ pc ls st σ, k pc ls st σ = some (rv, rf) → zG p l e R s m args below meth c Q D A pa ws0 σ0 rf pc ls st σ) (h : zstep X C .bastore ls st σ (pc + 1) k = some (rv, rf)) : zG p l e R s m args below meth c Q D A pa ws0 σ0 rf pc ls st σ := by
  simp only [zstep] at h
  split at h
  · next v i a r =>
    split at h
    · next hc =>
      obtain ⟨hc1, hc2, hc3⟩ := hc
      have hz := hk _ _ _ _ h
      refine ⟨hz.1, fun ws tys H locs mls mst hn hK hR hP hD hS hxx hl hst => ?_⟩
      obtain ⟨_, _, rfl, ⟨y, rfl, rfl⟩, _, _, rfl, ⟨x, rfl, rfl⟩, w0, m2, rfl, hw0, hst⟩ := hst
      obtain ⟨b, q, e, rfl, hb1, rfl, hcr⟩ := hR.at hw0 (by rw [hc1]; decide)
      simp only [zCR, hc1] at hcr
      obtain ⟨t, cA, f, ht, rfl, hf⟩ := hcr
      obtain ⟨i1, i2, i3⟩ := zidx ⟨hc2, hc3⟩
      refine va_bast hx hb hK hP hD hS b t hb1 ht i1 hd (fun H1 locs1 hP1 hD1 hS1 => ?_)
      have hx1 := zext.set (e' := .inl (cA, ((σ.2.2.1 (b + 1)).2.1, .inl (upd f x.toNatClampNeg (vp_nar .byte y))))) hb1
      refine hz.2 _ tys H1 locs1 mls m2 hn hK (hR.setI hb1 ?_) hP1 hD1 hS1 (hxx.trans hx1) (hl.mono hx1) (hst.mono hx1)
      simp only [zCR, hc1]
      refine ⟨t, cA, _, ht, rfl, fun j hj => ?_⟩
      rw [zupd_int hf j hj, vp_nar_byte, zn_i2b]
      rfl
    · cases h
  · cases h
theorem zs_aastore (hx : p.tables.exec = Jvm.exec) (hb : c.code = cc) (hd : decode cc pc = .ok (.aastore, 1)) (hk : ∀ pc ls st σ, k pc ls st σ = some (rv, rf) → zG p l e R s m args below meth c Q D A pa ws0 σ0 rf pc ls st σ) (h : zstep X C .aastore ls st σ (pc + 1) k = some (rv, rf)) : zG p l e R s m args below meth c Q D A pa ws0 σ0 rf pc ls st σ := by
  simp only [zstep] at h
  split at h
  · next v i a r =>
    split at h
    · next hc =>
      obtain ⟨hc1, hc2, hc3, hc4⟩ := hc
      have hz := hk _ _ _ _ h
      refine ⟨hz.1, fun ws tys H locs mls mst hn hK hR hP hD hS hxx hl hst => ?_⟩
      obtain ⟨wv, _, rfl, hwv, _, _, rfl, ⟨x, rfl, rfl⟩, w0, m2, rfl, hw0, hst⟩ := hst
      obtain ⟨b, q, e, rfl, hb1, rfl, hcr⟩ := hR.at hw0 (by rw [hc1]; decide)
      obtain ⟨bv, qv, ev, rfl, hb2, rfl, hcv⟩ := hR.at (show zRR ws v wv from hwv) (by rw [hc4]; exact Nat.one_ne_zero)
      simp only [zCR, hc1] at hcr
      obtain ⟨t, cA, f, ht, rfl, hf⟩ := hcr
      have hlt : (σ.2.2.1 (b + 1)).2.2 < 11 := by rw [hc4] at hcv; exact hcv.1
      obtain ⟨fs, rfl, -, -⟩ := zCR_obj hc4 hcv
      obtain ⟨i1, i2, i3⟩ := zidx ⟨hc2, hc3⟩
      refine va_astq hx hb hK hP hD hS b t bv (σ.2.2.1 (b + 1)).2.2 hb1 (r := (znm (σ.2.2.1 (b + 1)).2.2, zTT (σ.2.2.1 (b + 1)).2.2, znf (σ.2.2.1 (b + 1)).2.2)) ht hb2 (zclass_ok _ hlt).1 i1 hd (fun H1 locs1 hP1 hD1 hS1 => ?_)
      have hx1 := zext.set (e' := .inl (cA, ((σ.2.2.1 (b + 1)).2.1, .inr (.inr (.inr (.inr (va_up f x.toNatClampNeg (some qv)))))))) hb1
      refine hz.2 _ tys H1 locs1 mls m2 hn hK (hR.setR hb1 ?_) hP1 hD1 hS1 (hxx.trans hx1) (hl.mono hx1) (hst.mono hx1)
      simp only [zCR, hc1]
      refine ⟨t, cA, _, ht, rfl, fun j hj => ?_⟩
      unfold va_up
      rw [i2]
      by_cases e : j = x.toInt.toNat
      · rw [if_pos e, if_pos e]
        exact ⟨_, hb2, rfl⟩
      · rw [if_neg e, if_neg e]; exact hf j hj
    · cases h
  · cases h
theorem ztys_app {tys : List (ClassId × FieldType)} {q0 : ClassId × FieldType} : ∀ (t : Nat) (q : ClassId × FieldType), tys[t]? = some q → (tys ++ [q0])[t]? = some q := fun t q h => by rw [List.getElem?_append_left (List.getElem?_eq_some_iff.mp h).1]; exact h
theorem ztys_last {tys : List (ClassId × FieldType)} {q0 : ClassId × FieldType} : (tys ++ [q0])[tys.length]? = some q0 := by rw [List.getElem?_append_right (Nat.le_refl _), Nat.sub_self]; rfl
/-- a class's fields as they are at first -/
def zdef (c : Nat) : List Value := (List.range (znf c)).map (fun j => defaultValue (zty c j))
theorem ztok : ∀ c, c < 11 → ∀ k, k < znf c → (zty c k = .int ∨ zty c k = .long ∨ zty c k = .boolean ∨ fits (zty c k) .null = true) := by decide +kernel
theorem zdef_FR {ws : va_W} (t : FieldType) (ht : t = .int ∨ t = .long ∨ t = .boolean ∨ fits t .null = true) : zFR ws t 0 0 (defaultValue t) := by
  rcases ht with rfl | rfl | rfl | ht
  · exact ⟨0, rfl, rfl⟩
  · exact ⟨0, rfl, rfl⟩
  · exact ⟨0, rfl, rfl⟩
  · rw [zFR_ref ht]
    show defaultValue t = .null
    cases t <;> first | rfl | (simp [fits] at ht)
theorem zdef_get {c j : Nat} {v : Value} (h : (zdef c)[j]? = some v) : j < znf c ∧ v = defaultValue (zty c j) := by
  unfold zdef at h
  rw [List.getElem?_map] at h
  obtain ⟨k, hk, rfl⟩ := Option.map_eq_some_iff.mp h
  have hl := (List.getElem?_eq_some_iff.mp hk).1
  rw [List.length_range] at hl
  rw [List.getElem?_range hl] at hk
  cases hk
  exact ⟨hl, rfl⟩
theorem zs_new (hx : p.tables.exec = Jvm.exec) (hb : c.code = cc) {own i n : Nat} {Ts : List Cond} (hown : s.vm.findClass (znm own) = some m.cls) (hts : ∀ w ∈ Ts, w.before args s = true) (hc0 : n / 256 < 11) (hn0 : n % 256 = znf (n / 256)) (hin : ∀ w ∈ u_ws (znm (n / 256)) (zTT (n / 256)) (znf (n / 256)), w ∈ Ts) (hcl : (Cond.classLink (znm own) i (znm (n / 256))).before args s = true) (hins : (Cond.instantiable (znm (n / 256)) (znf (n / 256))).before args s = true) (hini : (Cond.initialized (znm (n / 256))).before args s = true)
    (hA : ∀ q, s.heap.size ≤ q → A q) (hrc : rf.2.2.2.1 - σ0.2.2.2.1 ≤ R.cells) (hrs : rf.2.2.2.2 - σ0.2.2.2.2 ≤ R.slots) (hd : decode cc pc = .ok (.new i, 3)) (hk : ∀ pc ls st σ, k pc ls st σ = some (rv, rf) → zG p l e R s m args below meth c Q D A pa ws0 σ0 rf pc ls st σ) (h : zstep X C (.new n) ls st σ (pc + 3) k = some (rv, rf)) : zG p l e R s m args below meth c Q D A pa ws0 σ0 rf pc ls st σ := by
  simp only [zstep] at h
  obtain ⟨hz0c, -, hty, -⟩ := zclass_ok _ hc0
  have hz := hk _ _ _ _ h
  have hm1 : σ.2.2.2.1 + 1 ≤ rf.2.2.2.1 := hz.1.1
  have hm2 : σ.2.2.2.2 + n % 256 ≤ rf.2.2.2.2 := hz.1.2
  rw [hn0] at hm2
  refine ⟨⟨by omega, by omega⟩, fun ws tys H locs mls mst hn hK hR hP hD hS hxx hl hst => ?_⟩
  obtain ⟨hn1, hn2⟩ := hn
  refine va_new hx hb hts hin (zty (n / 256)) hty hown hcl hins hini hK hP hD hS hA hz0c (fs := zdef (n / 256)) (fun j hj => ?_) (by omega) (by omega) hd (fun q H1 hP1 hD1 hS1 => ?_)
  · unfold zdef vp_V
    rw [List.getD_eq_getElem?_getD, List.getElem?_map, List.getElem?_range hj]
    rfl
  · have e1 : σ.2.2.2.1 - σ0.2.2.2.1 + 1 = (zmake σ (1, (n / 256, 0)) (n % 256)).2.2.2.1 - σ0.2.2.2.1 := by show _ = σ.2.2.2.1 + 1 - σ0.2.2.2.1; omega
    have e2 : σ.2.2.2.2 - σ0.2.2.2.2 + znf (n / 256) = (zmake σ (1, (n / 256, 0)) (n % 256)).2.2.2.2 - σ0.2.2.2.2 := by show _ = σ.2.2.2.2 + n % 256 - σ0.2.2.2.2; omega
    rw [e1, e2]
    have hx1 := zext.app ws [(q, .inr (n / 256, zdef (n / 256)))]
    refine hz.2 _ tys H1 locs mls _ ⟨by show _ ≤ σ.2.2.2.1 + 1; omega, by show _ ≤ σ.2.2.2.2 + n % 256; omega⟩ hK (hR.make (fun _ _ h => h) (zCR_mk hc0 (by unfold zdef; rw [List.length_map, List.length_range]) (fun j v hv => ?_))) hP1 hD1 hS1 (hxx.trans hx1) (hl.mono hx1) ⟨_, _, rfl, ?_, hst.mono hx1⟩
    · obtain ⟨h1, rfl⟩ := zdef_get hv
      exact zdef_FR _ (ztok _ hc0 _ h1)
    · show zRR _ (σ.2.2.2.1 + 1) _
      refine ⟨(q, .inr (n / 256, zdef (n / 256))), ?_, rfl⟩
      rw [← hR.1, List.getElem?_append_right (Nat.le_refl _), Nat.sub_self]
      rfl
theorem zRR_last {ws : va_W} {q : Nat} {e : va_E} {n : Nat} (h : ws.length = n) : zRR (ws ++ [(q, e)]) (n + 1) (.ref q) := ⟨(q, e), by rw [← h, List.getElem?_append_right (Nat.le_refl _), Nat.sub_self]; rfl, rfl⟩
theorem znneg {x : Int32} (h : 0 ≤ x.toInt) : ¬ x < 0 := by rw [zn_lt0]; omega
theorem zs_newarray (hx : p.tables.exec = Jvm.exec) (hb : c.code = cc) (hA : ∀ q, s.heap.size ≤ q → A q) (hrc : rf.2.2.2.1 - σ0.2.2.2.1 ≤ R.cells) (hrs : rf.2.2.2.2 - σ0.2.2.2.2 ≤ R.slots) (hai : (Cond.arrayClass .int).before args s = true) (hal : (Cond.arrayClass .long).before args s = true) (hab : (Cond.arrayClass .byte).before args s = true) {t : ArrayType} (hd : decode cc pc = .ok (.newarray t, 2)) (hk : ∀ pc ls st σ, k pc ls st σ = some (rv, rf) → zG p l e R s m args below meth c Q D A pa ws0 σ0 rf pc ls st σ) (h : zstep X C (.newarray t) ls st σ (pc + 2) k = some (rv, rf)) : zG p l e R s m args below meth c Q D A pa ws0 σ0 rf pc ls st σ := by
  simp only [zstep] at h
  split at h
  · next n r =>
    split at h
    · next hc =>
      have fin : ∀ (kd : Nat) (ty : FieldType) (a0 : Nat → vp_A), (Cond.arrayClass (newarray.typeOf t)).before args s = true → newarray.typeOf t = ty → (∀ (N : Nat) (cA : ClassId), vp_cell cA (a0 N) = arrV cA N (fun _ => defaultValue ty)) → componentBytes ty ≤ 8 → k (pc + 2) ls (.inr (.inr (.inl (σ.2.2.2.1 + 1))) :: r) (zmake σ (kd, (n.toNat, 0)) n.toNat) = some (rv, rf) →
          (∀ (ws : va_W) (tys : List (ClassId × FieldType)) (N : Nat) (cA : ClassId), (∃ t : Nat, tys[t]? = some (cA, ty)) → zCR ws tys (kd, (N, 0)) (fun _ => 0) (fun _ => 0) (.inl (cA, a0 N))) → zG p l e R s m args below meth c Q D A pa ws0 σ0 rf pc ls (.inl n :: r) σ := by
        intro kd ty a0 harr hty ha hcb hv hcr
        have hz := hk _ _ _ _ hv
        have hm1 : σ.2.2.2.1 + 1 ≤ rf.2.2.2.1 := hz.1.1
        have hm2 : σ.2.2.2.2 + n.toNat ≤ rf.2.2.2.2 := hz.1.2
        refine ⟨⟨by omega, by omega⟩, fun ws tys H locs mls mst hn hK hR hP hD hS hxx hl hst => ?_⟩
        obtain ⟨hn1, hn2⟩ := hn
        obtain ⟨_, m2, rfl, ⟨x, rfl, hx1⟩, hst⟩ := hst
        have hxN : x.toNatClampNeg = n.toNat := by rw [← hx1]; rfl
        refine va_newa hx hb harr hty hK hP hD hS hA (N' := n.toNat) (ha n.toNat) (znneg (by omega)) hxN ?_ (by omega) (by omega) hd (fun q cA H1 hK1 hP1 hD1 hS1 => ?_)
        · have : n.toNat ≤ 100000 := by omega
          calc n.toNat * componentBytes ty ≤ 100000 * 8 := Nat.mul_le_mul this hcb
            _ ≤ 536870912 := by decide
        · have e1 : σ.2.2.2.1 - σ0.2.2.2.1 + 1 = (zmake σ (kd, (n.toNat, 0)) n.toNat).2.2.2.1 - σ0.2.2.2.1 := by show _ = σ.2.2.2.1 + 1 - σ0.2.2.2.1; omega
          have e2 : σ.2.2.2.2 - σ0.2.2.2.2 + n.toNat = (zmake σ (kd, (n.toNat, 0)) n.toNat).2.2.2.2 - σ0.2.2.2.2 := by show _ = σ.2.2.2.2 + n.toNat - σ0.2.2.2.2; omega
          rw [e1, e2]
          have hx2 := zext.app ws [(q, .inl (cA, a0 n.toNat))]
          exact hz.2 _ _ H1 locs mls _ ⟨by show _ ≤ σ.2.2.2.1 + 1; omega, by show _ ≤ σ.2.2.2.2 + n.toNat; omega⟩ hK1 (hR.make ztys_app (hcr _ _ _ _ ⟨_, ztys_last⟩)) hP1 hD1 hS1 (hxx.trans hx2) (hl.mono hx2) ⟨_, _, rfl, zRR_last hR.1, hst.mono hx2⟩
      split at h
      · exact fin 2 .int (fun N => (N, .inl (fun _ => 0))) hai rfl (fun N cA => rfl) (by decide) h (fun ws tys N cA ⟨t, ht⟩ => ⟨t, cA, _, ht, rfl, fun j hj => rfl⟩)
      · exact fin 3 .long (fun N => (N, .inr (.inl (fun _ => 0)))) hal rfl (fun N cA => rfl) (by decide) h (fun ws tys N cA ⟨t, ht⟩ => ⟨t, cA, _, ht, rfl, fun j hj => rfl⟩)
      · exact fin 4 .byte (fun N => (N, .inl (fun _ => 0))) hab rfl (fun N cA => rfl) (by decide) h (fun ws tys N cA ⟨t, ht⟩ => ⟨t, cA, _, ht, rfl, fun j hj => rfl⟩)
      · cases h
    · cases h
  · cases h
theorem zs_anewarray (hx : p.tables.exec = Jvm.exec) (hb : c.code = cc) {own i c0 : Nat} (hown : s.vm.findClass (znm own) = some m.cls) (hcl : (Cond.classLink (znm own) i (znm c0)).before args s = true) (hov : va_AO (znm c0) s) (hA : ∀ q, s.heap.size ≤ q → A q) (hrc : rf.2.2.2.1 - σ0.2.2.2.1 ≤ R.cells) (hrs : rf.2.2.2.2 - σ0.2.2.2.2 ≤ R.slots) (hd : decode cc pc = .ok (.anewarray i, 3)) (hk : ∀ pc ls st σ, k pc ls st σ = some (rv, rf) → zG p l e R s m args below meth c Q D A pa ws0 σ0 rf pc ls st σ) (h : zstep X C (.anewarray c0) ls st σ (pc + 3) k = some (rv, rf)) : zG p l e R s m args below meth c Q D A pa ws0 σ0 rf pc ls st σ := by
  simp only [zstep] at h
  split at h
  · next n r =>
    split at h
    · next hc =>
      have hz := hk _ _ _ _ h
      have hm1 : σ.2.2.2.1 + 1 ≤ rf.2.2.2.1 := hz.1.1
      have hm2 : σ.2.2.2.2 + n.toNat ≤ rf.2.2.2.2 := hz.1.2
      refine ⟨⟨by omega, by omega⟩, fun ws tys H locs mls mst hn hK hR hP hD hS hxx hl hst => ?_⟩
      obtain ⟨hn1, hn2⟩ := hn
      obtain ⟨_, m2, rfl, ⟨x, rfl, hx1⟩, hst⟩ := hst
      have hxN : x.toNatClampNeg = n.toNat := by rw [← hx1]; rfl
      refine va_newq hx hb hown hcl hov hK hP hD hS hA (N' := n.toNat) (znneg (by omega)) hxN (by omega) (by omega) (by omega) hd (fun q cA H1 hK1 hP1 hD1 hS1 => ?_)
      have e1 : σ.2.2.2.1 - σ0.2.2.2.1 + 1 = (zmake σ (5, (n.toNat, c0)) n.toNat).2.2.2.1 - σ0.2.2.2.1 := by show _ = σ.2.2.2.1 + 1 - σ0.2.2.2.1; omega
      have e2 : σ.2.2.2.2 - σ0.2.2.2.2 + n.toNat = (zmake σ (5, (n.toNat, c0)) n.toNat).2.2.2.2 - σ0.2.2.2.2 := by show _ = σ.2.2.2.2 + n.toNat - σ0.2.2.2.2; omega
      rw [e1, e2]
      have hx2 := zext.app ws [(q, .inl (cA, (n.toNat, .inr (.inr (.inr (.inr (fun _ => none)))))))]
      exact hz.2 _ _ H1 locs mls _ ⟨by show _ ≤ σ.2.2.2.1 + 1; omega, by show _ ≤ σ.2.2.2.2 + n.toNat; omega⟩ hK1 (hR.make ztys_app ⟨_, cA, (fun _ => none), ztys_last, rfl, fun j hj => (rfl : va_rf none = Value.null)⟩) hP1 hD1 hS1 (hxx.trans hx2) (hl.mono hx2) ⟨_, _, rfl, zRR_last hR.1, hst.mono hx2⟩
    · cases h
  · cases h
theorem zs_nop (hx : p.tables.exec = Jvm.exec) (hb : c.code = cc) {own i : Nat} (hown : s.vm.findClass (znm own) = some m.cls) (hlk : (Cond.methodLink (znm own) i objectInit).before args s = true) (hins : (Cond.instanceMethod objectInit).before args s = true) (hco : (Cond.code objectInit ⟨#[0xb1]⟩ 1 none).before args s = true) (hml : c.maxLocals = ls.length) (hfr : 4 ≤ R.frames) (hlo : 200 ≤ R.locals) (hd : decode cc pc = .ok (.invokespecial i, 3)) (hk : ∀ pc ls st σ, k pc ls st σ = some (rv, rf) → zG p l e R s m args below meth c Q D A pa ws0 σ0 rf pc ls st σ) (h : zstep X C .nop ls st σ (pc + 3) k = some (rv, rf)) : zG p l e R s m args below meth c Q D A pa ws0 σ0 rf pc ls st σ := by
  simp only [zstep] at h
  split at h
  · split at h
    · next a r _ hsum =>
      split at h
      · cases h
      next ha0 =>
      have hs8 : (r.map zcat).sum ≤ 8 := Nat.ble_eq.mp hsum
      have hz := hk _ _ _ _ h
      refine ⟨hz.1, fun ws tys H locs mls mst hn hK hR hP hD hS hxx hl hst => ?_⟩
      obtain ⟨w, m2, rfl, hw, hst⟩ := hst
      have hsz := hst.sum
      cases a with
      | zero => exact absurd rfl ha0
      | succ b =>
        obtain ⟨q, hq, rfl⟩ := (show zRR ws (b + 1) w from hw)
        exact W.objInit hx hb hown hlk hins hco (g := F0 m pc mls (.ref q.1 :: m2)) rfl (by show mls.size = _; rw [hl.1, hml]) rfl hd (by omega) (by show 2 * 0 + _ + 12 ≤ _; omega) (hz.2 ws tys H locs mls m2 hn hK hR hP hD hS hxx hl hst)
    · cases h
  · cases h
end ZOPS4
