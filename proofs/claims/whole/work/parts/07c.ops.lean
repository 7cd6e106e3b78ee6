/-! ONE STEP OF THE SMALL MACHINE IS ONE INSTRUCTION OF THE MACHINE: jumps by tables, the heap. -/
/-- what the pool says of a field's number -/
def zFK (n : Nat) : Prop := n / 256 < 11 ∧ n / 4 % 64 < znf (n / 256) ∧ (zfT n).1 = znm (n / 256) ∧ ((n % 4 = 0 ∧ zty (n / 256) (n / 4 % 64) = .int) ∨ (n % 4 = 1 ∧ zty (n / 256) (n / 4 % 64) = .long) ∨ (n % 4 = 2 ∧ zty (n / 256) (n / 4 % 64) = .boolean) ∨ (n % 4 = 3 ∧ fits (zty (n / 256) (n / 4 % 64)) .null = true))
theorem zFR_ref {ws : va_W} {t : FieldType} {i : Int} {r : Nat} {w : Value} (h : fits t .null = true) : zFR ws t i r w = zRR ws r w := by
  cases t <;> first | rfl | (simp [fits] at h)
theorem zfits_ref {ws : va_W} {t : FieldType} {r : Nat} {w : Value} (h : fits t .null = true) (hw : zRR ws r w) : narrow t w = w ∧ fits t w = true := by
  cases r with
  | zero =>
    rw [show w = .null from hw]
    exact ⟨by cases t <;> first | rfl | (simp [fits] at h), h⟩
  | succ b =>
    obtain ⟨q, -, hq⟩ := hw
    rw [hq]
    cases t <;> first | exact ⟨rfl, rfl⟩ | (simp [fits] at h)
theorem zn_ofNat {n : Nat} (h : n < 2147483648) : (Int32.ofNat n).toInt = n := nI_toInt (by omega)
section ZOPS3
variable {p : Program} {l : Launch} {e : Env} {R : Room} {s : State} {m : MethodId} {args : Array Value} {below : List Frame} {meth : Method} {c : Code} {cc : ByteArray} {Q : State → Prop} {D : va_G} {A : Nat → Prop} {pa : Nat → Nat} {ws0 : va_W} {σ0 rf : zMem}
variable {pc nx : Nat} {ls : zLoc} {st : List zV} {σ : zMem} {k : zK} {X : zX} {C : zC} {rv : Option zV}
theorem zs_tableswitch (hx : p.tables.exec = Jvm.exec) (hb : c.code = cc) {d lo hi : Int} {ts : Array Int} {len : Nat} (hd : decode cc pc = .ok (.tableswitch d lo hi ts, len)) (hdt : 0 ≤ (pc : Int) + d) (hts : ts.toList.all (fun o => decide (0 ≤ (pc : Int) + o)) = true) (hk : ∀ pc ls st σ, k pc ls st σ = some (rv, rf) → zG p l e R s m args below meth c Q D A pa ws0 σ0 rf pc ls st σ) (h : zstep X C (.tableswitch (pc + d) lo hi ⟨ts.toList.map (fun o => pc + o)⟩) ls st σ nx k = some (rv, rf)) : zG p l e R s m args below meth c Q D A pa ws0 σ0 rf pc ls st σ := by
  simp only [zstep] at h
  split at h
  · split at h
    · next x r hlo =>
      exact zG_step (hk _ _ _ _ h) (fun ws H locs cells slots mls mst hS hl hs kk => by
        obtain ⟨_, m2, rfl, ⟨x, rfl, hx1⟩, hs⟩ := hs
        subst hx1
        exact lv_tableOut hx hb hd (Or.inl hlo) (zt_tgt hdt) (kk mls _ hl hs))
    · split at h
      · next x r hlo hhi =>
        exact zG_step (hk _ _ _ _ h) (fun ws H locs cells slots mls mst hS hl hs kk => by
          obtain ⟨_, m2, rfl, ⟨x, rfl, hx1⟩, hs⟩ := hs
          subst hx1
          exact lv_tableOut hx hb hd (Or.inr hhi) (zt_tgt hdt) (kk mls _ hl hs))
      · split at h
        · next x r hlo hhi _ t ht =>
          rw [List.getElem?_map] at ht
          obtain ⟨o, ho, rfl⟩ := Option.map_eq_some_iff.mp ht
          have hon : 0 ≤ (pc : Int) + o := by
            have := List.all_eq_true.mp hts o (List.mem_of_getElem? ho)
            simpa using this
          exact zG_step (hk _ _ _ _ h) (fun ws H locs cells slots mls mst hS hl hs kk => by
            obtain ⟨_, m2, rfl, ⟨x, rfl, hx1⟩, hs⟩ := hs
            subst hx1
            exact lv_tableIn hx hb hd hlo hhi (by rw [← Array.getElem?_toList]; exact ho) (zt_tgt hon) (kk mls _ hl hs))
        · cases h
  · cases h
theorem zlook_off (pc : Nat) (d : Int) (x : Int) : ∀ (l : List (Int × Int)), zlook (l.map (fun q => (q.1, (pc : Int) + q.2))) ((pc : Int) + d) x = (pc : Int) + Op.lookupswitch.offset l d x
  | [] => rfl
  | (a, o) :: l => by
    rw [List.map_cons]
    simp only [zlook, Op.lookupswitch.offset]
    by_cases hxa : x = a
    · rw [if_pos hxa]
      first | (rw [if_pos hxa]) | (rw [if_pos (by simpa using hxa)]) | (rw [if_pos hxa.symm]) | simp [hxa]
    · rw [if_neg hxa]
      have ih := zlook_off pc d x l
      first | (rw [if_neg hxa]; exact ih) | (rw [if_neg (fun q => hxa q.symm)]; exact ih) | (rw [if_neg (by simpa using hxa)]; exact ih) | (rw [if_neg (by simpa using (fun q => hxa (Eq.symm q)))]; exact ih) | (have hh : (x == a) = false := by simpa using hxa; simp only [hh]; exact ih)
theorem zlook_nonneg (pc : Nat) (d : Int) (x : Int) (hd : 0 ≤ (pc : Int) + d) : ∀ (l : List (Int × Int)), l.all (fun q => decide (0 ≤ (pc : Int) + q.2)) = true → 0 ≤ zlook (l.map (fun q => (q.1, (pc : Int) + q.2))) ((pc : Int) + d) x
  | [], _ => hd
  | (a, o) :: l, h => by
    rw [List.all_cons, Bool.and_eq_true] at h
    rw [List.map_cons]
    simp only [zlook]
    split
    · simpa using h.1
    · exact zlook_nonneg pc d x hd l h.2
theorem zs_lookupswitch (hx : p.tables.exec = Jvm.exec) (hb : c.code = cc) {d : Int} {ps : Array (Int × Int)} {len : Nat} (hd : decode cc pc = .ok (.lookupswitch d ps, len)) (hdt : 0 ≤ (pc : Int) + d) (hps : ps.toList.all (fun q => decide (0 ≤ (pc : Int) + q.2)) = true) (hso : (ps.toList.zip (ps.toList.drop 1)).all (fun (a, next) => a.1 < next.1) = true) (hk : ∀ pc ls st σ, k pc ls st σ = some (rv, rf) → zG p l e R s m args below meth c Q D A pa ws0 σ0 rf pc ls st σ) (h : zstep X C (.lookupswitch (pc + d) ⟨ps.toList.map (fun q => (q.1, pc + q.2))⟩) ls st σ nx k = some (rv, rf)) : zG p l e R s m args below meth c Q D A pa ws0 σ0 rf pc ls st σ := by
  simp only [zstep] at h
  split at h
  · next x r =>
    exact zG_step (hk _ _ _ _ h) (fun ws H locs cells slots mls mst hS hl hs kk => by
      obtain ⟨_, m2, rfl, ⟨x, rfl, hx1⟩, hs⟩ := hs
      subst hx1
      refine lv_lookup hx hb hd hso rfl ?_ (kk mls _ hl hs)
      have h1 := zlook_off pc d x.toInt ps.toList
      have h2 := zlook_nonneg pc d x.toInt hdt ps.toList hps
      rw [← h1]
      exact (Int.toNat_of_nonneg h2).symm)
  · cases h
theorem zCR_obj {ws : va_W} {tys : List (ClassId × FieldType)} {kd : Nat × (Nat × Nat)} {I : Nat → Int} {R : Nat → Nat} {e : va_E} {c : Nat} (hk : kd = (1, (c, 0))) (h : zCR ws tys kd I R e) : ∃ fs : List Value, e = .inr (c, fs) ∧ fs.length = znf c ∧ ∀ (j : Nat) (v : Value), fs[j]? = some v → zFR ws (zty c j) (I j) (R j) v := by
  subst hk
  exact h.2
theorem zs_getfield (hx : p.tables.exec = Jvm.exec) (hb : c.code = cc) {own i n : Nat} {Ts : List Cond} (hown : s.vm.findClass (znm own) = some m.cls) (hts : ∀ w ∈ Ts, w.before args s = true) (hin : ∀ w ∈ u_ws (znm (n / 256)) (zTT (n / 256)) (znf (n / 256)), w ∈ Ts) (hf : zFK n) (hlk : (Cond.fieldLink (znm own) i (zfT n).1 (zfT n).2.1 (zfT n).2.2.1).before args s = true) (hd : decode cc pc = .ok (.getfield i, 3)) (hk : ∀ pc ls st σ, k pc ls st σ = some (rv, rf) → zG p l e R s m args below meth c Q D A pa ws0 σ0 rf pc ls st σ) (h : zstep X C (.getfield n) ls st σ (pc + 3) k = some (rv, rf)) : zG p l e R s m args below meth c Q D A pa ws0 σ0 rf pc ls st σ := by
  obtain ⟨hf1, hf2, hf3, hf4⟩ := hf
  simp only [zstep] at h
  split at h
  · next a r =>
    split at h
    · next hka =>
      have hcl := (zclass_ok _ hf1).1
      have fin : ∀ v, k (pc + 3) ls (v :: r) σ = some (rv, rf) → (∀ (ws : va_W) (tys : List (ClassId × FieldType)) (w : Value) (b : Nat) (q : Nat) (fs : List Value), a = b + 1 → zFR ws (zty (n / 256) (n / 4 % 64)) (σ.1 a (n / 4 % 64)) (σ.2.1 a (n / 4 % 64)) w → zVR pa ws v w) → zG p l e R s m args below meth c Q D A pa ws0 σ0 rf pc ls (.inr (.inr (.inl a)) :: r) σ := by
        intro v hv hw
        have hz := hk _ _ _ _ hv
        refine ⟨hz.1, fun ws tys H locs mls mst hn hK hR hP hD hS hxx hl hst => ?_⟩
        obtain ⟨w0, m2, rfl, hw0, hst⟩ := hst
        obtain ⟨b, q, e, rfl, hb1, rfl, hc⟩ := hR.at hw0 (by rw [hka]; exact Nat.one_ne_zero)
        obtain ⟨fs, rfl, hlen, hfs⟩ := zCR_obj hka hc
        have hlt : n / 4 % 64 < fs.length := by rw [hlen]; exact hf2
        have hfv := List.getElem?_eq_getElem hlt
        exact va_get hx hb hts hin hown hK hP b hb1 hcl (n / 4 % 64) hf2 hlk (fun x hx => hx) hfv hd (hz.2 ws tys H locs mls _ hn hK hR hP hD hS hxx hl ⟨_, _, rfl, hw ws tys _ b q fs rfl (hfs _ _ hfv), hst⟩)
      rcases hf4 with ⟨h4, h5⟩ | ⟨h4, h5⟩ | ⟨h4, h5⟩ | ⟨h4, h5⟩
      · rw [h4] at h
        refine fin _ h (fun ws tys w b q fs e1 hw => ?_)
        rw [h5] at hw
        exact hw
      · rw [h4] at h
        refine fin _ h (fun ws tys w b q fs e1 hw => ?_)
        rw [h5] at hw
        exact hw
      · rw [h4] at h
        refine fin _ h (fun ws tys w b q fs e1 hw => ?_)
        rw [h5] at hw
        exact hw
      · rw [h4] at h
        refine fin _ h (fun ws tys w b q fs e1 hw => ?_)
        rw [zFR_ref h5] at hw
        exact hw
    · cases h
  · cases h
/-- a field is written, whatever it is -/
theorem zs_putany (hx : p.tables.exec = Jvm.exec) (hb : c.code = cc) {own i n a : Nat} {r : List zV} {v : zV} {σ' : zMem} {Ts : List Cond} (hown : s.vm.findClass (znm own) = some m.cls) (hts : ∀ w ∈ Ts, w.before args s = true) (hin : ∀ w ∈ u_ws (znm (n / 256)) (zTT (n / 256)) (znf (n / 256)), w ∈ Ts) (hf : zFK n) (hfin : (zfT n).2.2.2 = false ∨ (meth.name = "<init>" ∧ (zfT n).1 = znm own)) (hlk : (Cond.fieldLink (znm own) i (zfT n).1 (zfT n).2.1 (zfT n).2.2.1).before args s = true) (hd : decode cc pc = .ok (.putfield i, 3)) (hka : σ.2.2.1 a = (1, (n / 256, 0))) (hz : zG p l e R s m args below meth c Q D A pa ws0 σ0 rf (pc + 3) ls r σ') (hsame : σ'.2.2.2 = σ.2.2.2)
    (hv : ∀ (ws : va_W) (w : Value), zVR pa ws v w → narrow (zty (n / 256) (n / 4 % 64)) w = w ∧ fits (zty (n / 256) (n / 4 % 64)) w = true)
    (hset : ∀ (ws : va_W) (tys : List (ClassId × FieldType)) (b q : Nat) (fs : List Value) (w : Value), a = b + 1 → zRel σ ws tys → ws[b]? = some (q, .inr (n / 256, fs)) → fs.length = znf (n / 256) → (∀ (j : Nat) (v : Value), fs[j]? = some v → zFR ws (zty (n / 256) j) (σ.1 (b + 1) j) (σ.2.1 (b + 1) j) v) → zVR pa ws v w → zRel σ' (ws.set b (q, .inr (n / 256, fs.set (n / 4 % 64) w))) tys) : zG p l e R s m args below meth c Q D A pa ws0 σ0 rf pc ls (v :: .inr (.inr (.inl a)) :: r) σ := by
  obtain ⟨hf1, hf2, hf3, hf4⟩ := hf
  obtain ⟨hcl, -, hty, hnd, -⟩ := zclass_ok _ hf1
  refine ⟨by rw [← hsame]; exact hz.1, fun ws tys H locs mls mst hn hK hR hP hD hS hxx hl hst => ?_⟩
  obtain ⟨w, _, rfl, hw, w0, m2, rfl, hw0, hst⟩ := hst
  obtain ⟨b, q, e, rfl, hb1, rfl, hc⟩ := hR.at hw0 (by rw [hka]; exact Nat.one_ne_zero)
  obtain ⟨fs, rfl, hlen, hfs⟩ := zCR_obj hka hc
  have hlt : n / 4 % 64 < fs.length := by rw [hlen]; exact hf2
  obtain ⟨hn1, hn2⟩ := hv ws w hw
  have hx1 := zext.set (e' := .inr (n / 256, fs.set (n / 4 % 64) w)) hb1
  have kk : ∀ (H1 : Heap) (locs1 : List Loc), va_P D zcl (ws.set b (q, .inr (n / 256, fs.set (n / 4 % 64) w))) H1 → va_D A (ws.set b (q, .inr (n / 256, fs.set (n / 4 % 64) w))) → va_S A s.heap H1 locs1 → W p l e R s m args below meth c H1 locs1 (σ.2.2.2.1 - σ0.2.2.2.1) (σ.2.2.2.2 - σ0.2.2.2.2) Q (F0 m (pc + 3) mls m2) := by
    intro H1 locs1 hP1 hD1 hS1
    have h2 := hz.2 (ws.set b (q, .inr (n / 256, fs.set (n / 4 % 64) w))) tys H1 locs1 mls m2 (by rw [hsame]; exact hn) hK (hset ws tys b q fs w rfl hR hb1 hlen hfs hw) hP1 hD1 hS1 (hxx.trans hx1) (hl.mono hx1) (hst.mono hx1)
    rw [hsame] at h2
    exact h2
  rcases hfin with hfin | ⟨hfin, hdecl⟩
  · exact va_put hx hb hts hin (zty (n / 256)) hty hnd hown hK hP hD hS b hb1 hcl (n / 4 % 64) hf2 hlk (fun x hx => hx) hfin (hty _ hf2) hn1 hn2 hlt hd kk
  · by_cases hff : (zfT n).2.2.2 = false
    · exact va_put hx hb hts hin (zty (n / 256)) hty hnd hown hK hP hD hS b hb1 hcl (n / 4 % 64) hf2 hlk (fun x hx => hx) hff (hty _ hf2) hn1 hn2 hlt hd kk
    · exact va_putF hx hb hts hin (zty (n / 256)) hty hnd hown hK hP hD hS b hb1 hcl (n / 4 % 64) hf2 hlk (fun x hx => hx) (by cases hq : (zfT n).2.2.2 with | true => exact hq | false => exact absurd hq hff) hfin hdecl (hty _ hf2) hn1 hn2 hlt hd kk
theorem zset_FR {ws : va_W} {c j0 : Nat} {fs : List Value} {w : Value} {I : Nat → Int} {R : Nat → Nat} {v : Int} (hfs : ∀ (j : Nat) (v : Value), fs[j]? = some v → zFR ws (zty c j) (I j) (R j) v) (hw : zFR ws (zty c j0) v (R j0) w) : ∀ (j : Nat) (u : Value), (fs.set j0 w)[j]? = some u → zFR ws (zty c j) (if j = j0 then v else I j) (R j) u := by
  intro j u hu
  by_cases hj : j = j0
  · subst hj
    have hlt : j < fs.length := by
      have := (List.getElem?_eq_some_iff.mp hu).1
      rwa [List.length_set] at this
    rw [List.getElem?_set_self hlt] at hu
    cases hu
    rw [if_pos rfl]
    exact hw
  · rw [List.getElem?_set_ne (Ne.symm hj)] at hu
    rw [if_neg hj]
    exact hfs j u hu
theorem zset_FRr {ws : va_W} {c j0 : Nat} {fs : List Value} {w : Value} {I : Nat → Int} {R : Nat → Nat} {v : Nat} (hfs : ∀ (j : Nat) (v : Value), fs[j]? = some v → zFR ws (zty c j) (I j) (R j) v) (hw : zFR ws (zty c j0) (I j0) v w) : ∀ (j : Nat) (u : Value), (fs.set j0 w)[j]? = some u → zFR ws (zty c j) (I j) (if j = j0 then v else R j) u := by
  intro j u hu
  by_cases hj : j = j0
  · subst hj
    have hlt : j < fs.length := by
      have := (List.getElem?_eq_some_iff.mp hu).1
      rwa [List.length_set] at this
    rw [List.getElem?_set_self hlt] at hu
    cases hu
    rw [if_pos rfl]
    exact hw
  · rw [List.getElem?_set_ne (Ne.symm hj)] at hu
    rw [if_neg hj]
    exact hfs j u hu
theorem zCR_mk {ws : va_W} {tys : List (ClassId × FieldType)} {c : Nat} {I : Nat → Int} {R : Nat → Nat} {fs : List Value} (hc : c < 11) (hl : fs.length = znf c) (h : ∀ (j : Nat) (v : Value), fs[j]? = some v → zFR ws (zty c j) (I j) (R j) v) : zCR ws tys (1, (c, 0)) I R (.inr (c, fs)) := ⟨hc, fs, rfl, hl, h⟩
theorem zs_putfield (hx : p.tables.exec = Jvm.exec) (hb : c.code = cc) {own i n : Nat} {Ts : List Cond} (hown : s.vm.findClass (znm own) = some m.cls) (hts : ∀ w ∈ Ts, w.before args s = true) (hin : ∀ w ∈ u_ws (znm (n / 256)) (zTT (n / 256)) (znf (n / 256)), w ∈ Ts) (hf : zFK n) (hfin : (zfT n).2.2.2 = false ∨ (meth.name = "<init>" ∧ (zfT n).1 = znm own)) (hlk : (Cond.fieldLink (znm own) i (zfT n).1 (zfT n).2.1 (zfT n).2.2.1).before args s = true) (hd : decode cc pc = .ok (.putfield i, 3)) (hk : ∀ pc ls st σ, k pc ls st σ = some (rv, rf) → zG p l e R s m args below meth c Q D A pa ws0 σ0 rf pc ls st σ) (h : zstep X C (.putfield n) ls st σ (pc + 3) k = some (rv, rf)) : zG p l e R s m args below meth c Q D A pa ws0 σ0 rf pc ls st σ := by
  have hf0 := hf
  obtain ⟨hf1, hf2, hf3, hf4⟩ := hf
  simp only [zstep] at h
  split at h
  · next v a r =>
    split at h
    · next hka =>
      have fin : k (pc + 3) ls r (zw σ a (n / 4 % 64) v) = some (rv, rf) → (zty (n / 256) (n / 4 % 64) = .int ∨ (zty (n / 256) (n / 4 % 64) = .boolean ∧ (v = 0 ∨ v = 1))) → zG p l e R s m args below meth c Q D A pa ws0 σ0 rf pc ls (.inl v :: .inr (.inr (.inl a)) :: r) σ := by
        intro hv ht
        refine zs_putany hx hb hown hts hin hf0 hfin hlk hd hka (hk _ _ _ _ hv) rfl (fun ws w hw => ?_) (fun ws tys b q fs w e1 hR hb1 hlen hfs hw => ?_)
        · obtain ⟨x, rfl, hx1⟩ := hw
          rcases ht with ht | ⟨ht, hv1⟩
          · rw [ht]; exact ⟨rfl, rfl⟩
          · rw [ht]; exact zn_bool (by rw [hx1]; exact hv1)
        · subst e1
          refine hR.setI hb1 ?_
          rw [hka]
          refine zCR_mk hf1 (by rw [List.length_set]; exact hlen) (zset_FR hfs ?_)
          rcases ht with ht | ⟨ht, -⟩ <;> (rw [ht]; exact hw)
      rcases hf4 with ⟨h4, h5⟩ | ⟨h4, h5⟩ | ⟨h4, h5⟩ | ⟨h4, h5⟩
      · rw [h4] at h
        exact fin h (Or.inl h5)
      · rw [h4] at h; cases h
      · rw [h4] at h
        simp only [] at h
        split at h
        · next hv1 => exact fin h (Or.inr ⟨h5, hv1⟩)
        · cases h
      · rw [h4] at h; cases h
    · cases h
  · next v a r =>
    split at h
    · next hka =>
      rcases hf4 with ⟨h4, h5⟩ | ⟨h4, h5⟩ | ⟨h4, h5⟩ | ⟨h4, h5⟩
      · rw [h4] at h; cases h
      · rw [h4] at h
        refine zs_putany hx hb hown hts hin hf0 hfin hlk hd hka (hk _ _ _ _ h) rfl (fun ws w hw => ?_) (fun ws tys b q fs w e1 hR hb1 hlen hfs hw => ?_)
        · obtain ⟨x, rfl, hx1⟩ := hw
          rw [h5]; exact ⟨rfl, rfl⟩
        · subst e1
          refine hR.setI hb1 ?_
          rw [hka]
          refine zCR_mk hf1 (by rw [List.length_set]; exact hlen) (zset_FR hfs ?_)
          rw [h5]; exact hw
      · rw [h4] at h; cases h
      · rw [h4] at h; cases h
    · cases h
  · next v a r =>
    split at h
    · next hka =>
      rcases hf4 with ⟨h4, h5⟩ | ⟨h4, h5⟩ | ⟨h4, h5⟩ | ⟨h4, h5⟩
      · rw [h4] at h; cases h
      · rw [h4] at h; cases h
      · rw [h4] at h; cases h
      · rw [h4] at h
        refine zs_putany hx hb hown hts hin hf0 hfin hlk hd hka (hk _ _ _ _ h) rfl (fun ws w hw => ?_) (fun ws tys b q fs w e1 hR hb1 hlen hfs hw => ?_)
        · exact zfits_ref h5 hw
        · subst e1
          refine hR.setR hb1 ?_
          rw [hka]
          refine zCR_mk hf1 (by rw [List.length_set]; exact hlen) (zset_FRr hfs ?_)
          rw [zFR_ref h5]; exact hw
    · cases h
  · cases h
end ZOPS3
